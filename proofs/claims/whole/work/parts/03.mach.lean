/-! values and worlds of the abstract machine: a reference is a kind of cell (vR), a row of a family (vQ), or an address that no world holds (vO) -/
abbrev AV : Type := Int32 ⊕ (Int64 ⊕ (Nat ⊕ ((Nat × Nat) ⊕ Nat)))
abbrev vI (x : Int32) : AV := .inl x
abbrev vJ (x : Int64) : AV := .inr (.inl x)
abbrev vR (k : Nat) : AV := .inr (.inr (.inl k))
abbrev vQ (k n : Nat) : AV := .inr (.inr (.inr (.inl (k, n))))
abbrev vO (a : Nat) : AV := .inr (.inr (.inr (.inr a)))
abbrev Wd : Type := (Nat → Nat → Nat → Int32) × (Nat → Nat → Nat → Int64)
/-- the addresses, the tables' numbers, the array classes by tag, the cells that are there -/
abbrev En : Type := (Nat → Nat → Nat) × va_G × (Nat → ClassId) × List (Nat × Nat)
abbrev eA (E : En) : Nat → Nat → Nat := E.1
abbrev eD (E : En) : va_G := E.2.1
abbrev eC (E : En) : Nat → ClassId := E.2.2.1
abbrev eI (E : En) : List (Nat × Nat) := E.2.2.2
/-- the kinds: (0, class, 0) object; (1, n, 0) int[n]; (2, n, 0) long[n]; (3, n, 0) char[n]; (4, n, 0) boolean[n]; (5, n, b) int[n][], rows of kind b; (6, n, b) long[n][] -/
def shpL : List (Nat × Nat × Nat) :=
  [(0, 3, 0), (0, 2, 0), (0, 1, 0), (0, 0, 0), (2, 10, 0), (1, 1500, 0), (1, 12, 0), (3, 48, 0), (1, 48, 0), (1, 48, 0),
   (2, 1500, 0), (1, 1500, 0), (1, 4096, 0), (6, 12, 14), (2, 16, 0), (6, 12, 16), (2, 12, 0), (6, 12, 18), (2, 12, 0), (5, 12, 20),
   (1, 12, 0), (1, 12, 0), (1, 12, 0), (9, 0, 0), (9, 0, 0), (9, 0, 0), (9, 0, 0), (9, 0, 0), (9, 0, 0), (9, 0, 0),
   (0, 4, 0), (1, 120, 0), (1, 12, 0), (1, 60, 0), (4, 144, 0), (1, 1728, 0), (1, 12, 0), (1, 12, 0), (1, 12, 0), (1, 1500, 0),
   (1, 1500, 0), (1, 1500, 0), (1, 12, 0), (1, 12, 0), (9, 0, 0), (9, 0, 0), (9, 0, 0), (9, 0, 0), (9, 0, 0), (9, 0, 0),
   (2, 1, 0)]
def shp (k : Nat) : Nat × Nat × Nat := shpL.getD k (9, 0, 0)
/-- the fields of the classes, by their slots: 0 int, 1 boolean, 2 long, k + 3 a reference to the cell of kind k -/
def ftL : List (List Nat) :=
  [[13, 14, 15, 0], [16, 18, 20, 22, 24, 25], [10, 11, 12, 0, 0, 0], [4, 5, 6, 7, 8, 9, 0, 0, 0, 2, 1],
   [0, 0, 0, 34, 35, 0, 36, 1, 37, 38, 39, 40, 41, 1, 42, 43, 0, 44, 45, 46]]
def ftc (cl f : Nat) : Nat := (ftL.getD cl []).getD f 0
def nfl (cl : Nat) : Nat := (ftL.getD cl []).length
/-- how many cells a kind has -/
def cnt (k : Nat) : Nat := if k = 14 ∨ k = 16 ∨ k = 18 ∨ k = 20 then 12 else if (shp k).1 = 9 then 0 else 1
def cv (E : En) : AV → Value
  | .inl x => .int x
  | .inr (.inl x) => .long x
  | .inr (.inr (.inl k)) => .ref (eA E k 0)
  | .inr (.inr (.inr (.inl q))) => .ref (eA E q.1 q.2)
  | .inr (.inr (.inr (.inr a))) => .ref a
def fval (E : En) (w : Wd) (k i cl f : Nat) : Value := match ftc cl f with
  | 0 => .int (w.1 k i f)
  | 1 => .int (w.1 k i f)
  | 2 => .long (w.2 k i f)
  | t + 3 => .ref (eA E t 0)
def wcell (E : En) (w : Wd) (k i : Nat) : va_E := match shp k with
  | (0, n, _) => .inr (n, (List.range (nfl n)).map (fval E w k i n))
  | (1, n, _) => .inl (eC E 1, n, .inl (w.1 k i))
  | (2, n, _) => .inl (eC E 2, n, .inr (.inl (w.2 k i)))
  | (3, n, _) => .inl (eC E 3, n, .inl (w.1 k i))
  | (4, n, _) => .inl (eC E 4, n, .inl (w.1 k i))
  | (5, n, b) => .inl (eC E 5, n, .inr (.inr (.inr (.inr (fun j => if j < n then some (eA E b j) else none)))))
  | (_, n, b) => .inl (eC E 6, n, .inr (.inr (.inr (.inr (fun j => if j < n then some (eA E b j) else none)))))
def wl (E : En) (w : Wd) : va_W := (eI E).map (fun q => (eA E q.1 q.2, wcell E w q.1 q.2))
def tysE (E : En) : List (ClassId × FieldType) := [(eC E 1, .int), (eC E 2, .long), (eC E 3, .char), (eC E 4, .boolean), (eC E 5, .array .int), (eC E 6, .array .long)]
def wI (w : Wd) (k i j : Nat) (x : Int32) : Wd := (fun a b => if a = k ∧ b = i then upd (w.1 k i) j x else w.1 a b, w.2)
def wJ (w : Wd) (k i j : Nat) (x : Int64) : Wd := (w.1, fun a b => if a = k ∧ b = i then vp_updL (w.2 k i) j x else w.2 a b)
/-- the cells are apart -/
def eOK (E : En) : Prop := (eI E).Nodup
theorem wl_pos {E : En} {w : Wd} {k i : Nat} (h : (k, i) ∈ eI E) : ∃ q0 : Nat, (eI E)[q0]? = some (k, i) ∧ (wl E w)[q0]? = some (eA E k i, wcell E w k i) := by
  obtain ⟨q0, hq⟩ := List.getElem?_of_mem h
  exact ⟨q0, hq, by simp [wl, hq]⟩
theorem wl_set {E : En} {w w' : Wd} {k i q0 : Nat} (hn : eOK E) (hq : (eI E)[q0]? = some (k, i)) (ho : ∀ a b : Nat, ¬ (a = k ∧ b = i) → wcell E w' a b = wcell E w a b) :
    (wl E w).set q0 (eA E k i, wcell E w' k i) = wl E w' := by
  apply List.ext_getElem?
  intro j
  by_cases hj : j = q0
  · subst hj
    have hl : j < (eI E).length := (List.getElem?_eq_some_iff.mp hq).1
    rw [List.getElem?_set_self (by simp [wl]; exact hl)]
    simp [wl, hq]
  · rw [List.getElem?_set_ne (Ne.symm hj)]
    simp only [wl, List.getElem?_map]
    cases hc : (eI E)[j]? with
    | none => rfl
    | some q =>
      simp only [Option.map_some]
      rw [ho q.1 q.2 (fun z => hj ?_)]
      have he : (eI E)[j]? = (eI E)[q0]? := by rw [hc, hq]; obtain ⟨a, b⟩ := q; obtain ⟨rfl, rfl⟩ := z; rfl
      have hl : j < (eI E).length := (List.getElem?_eq_some_iff.mp hc).1
      exact (List.getElem?_inj hl hn).mp he
theorem wI_other {E : En} {w : Wd} {k i j : Nat} {x : Int32} : ∀ a b : Nat, ¬ (a = k ∧ b = i) → wcell E (wI w k i j x) a b = wcell E w a b := by
  intro a b h
  have h1 : (wI w k i j x).1 a b = w.1 a b := if_neg h
  have h3 : ∀ cl, fval E (wI w k i j x) a b cl = fval E w a b cl := by
    intro cl; funext f
    unfold fval
    rw [h1]
    rfl
  unfold wcell
  simp only [h3]
  rw [h1]
  rfl
theorem wJ_other {E : En} {w : Wd} {k i j : Nat} {x : Int64} : ∀ a b : Nat, ¬ (a = k ∧ b = i) → wcell E (wJ w k i j x) a b = wcell E w a b := by
  intro a b h
  have h1 : (wJ w k i j x).2 a b = w.2 a b := if_neg h
  have h3 : ∀ cl, fval E (wJ w k i j x) a b cl = fval E w a b cl := by
    intro cl; funext f
    unfold fval
    rw [h1]
    rfl
  unfold wcell
  simp only [h3]
  rw [h1]
  rfl
theorem wI_at (w : Wd) (k i j : Nat) (x : Int32) : (wI w k i j x).1 k i = upd (w.1 k i) j x := if_pos ⟨rfl, rfl⟩
theorem wJ_at (w : Wd) (k i j : Nat) (x : Int64) : (wJ w k i j x).2 k i = vp_updL (w.2 k i) j x := if_pos ⟨rfl, rfl⟩
theorem fval_setI {E : En} {w : Wd} {k i cl f : Nat} {x : Int32} (hf : ftc cl f = 0 ∨ ftc cl f = 1) (hl : f < nfl cl) :
    ((List.range (nfl cl)).map (fval E w k i cl)).set f (.int x) = (List.range (nfl cl)).map (fval E (wI w k i f x) k i cl) := by
  apply List.ext_getElem?
  intro j
  by_cases hj : j = f
  · subst hj
    rw [List.getElem?_set_self (by simp; exact hl)]
    simp only [List.getElem?_map, List.getElem?_range hl, Option.map_some]
    unfold fval
    rw [wI_at]
    rcases hf with h | h <;> simp [h, upd]
  · rw [List.getElem?_set_ne (Ne.symm hj)]
    simp only [List.getElem?_map]
    by_cases hr : j < nfl cl
    · simp only [List.getElem?_range hr, Option.map_some]
      unfold fval
      rw [wI_at]
      simp only [upd, if_neg hj]
      rfl
    · simp [List.getElem?_eq_none (by simp; omega : (List.range (nfl cl)).length ≤ j)]
theorem fval_setJ {E : En} {w : Wd} {k i cl f : Nat} {x : Int64} (hf : ftc cl f = 2) (hl : f < nfl cl) :
    ((List.range (nfl cl)).map (fval E w k i cl)).set f (.long x) = (List.range (nfl cl)).map (fval E (wJ w k i f x) k i cl) := by
  apply List.ext_getElem?
  intro j
  by_cases hj : j = f
  · subst hj
    rw [List.getElem?_set_self (by simp; exact hl)]
    simp only [List.getElem?_map, List.getElem?_range hl, Option.map_some]
    unfold fval
    rw [wJ_at]
    simp [hf, vp_updL]
  · rw [List.getElem?_set_ne (Ne.symm hj)]
    simp only [List.getElem?_map]
    by_cases hr : j < nfl cl
    · simp only [List.getElem?_range hr, Option.map_some]
      unfold fval
      rw [wJ_at]
      simp only [vp_updL, if_neg hj]
      rfl
    · simp [List.getElem?_eq_none (by simp; omega : (List.range (nfl cl)).length ≤ j)]
/-! locals: a place each, none where nothing is known -/
def isJ (v : AV) : Bool := match v with
  | .inr (.inl _) => true
  | _ => false
def LR (E : En) (nL : Nat) (ls : Array Slot) (L : List (Option AV)) : Prop := ls.size = nL ∧ lv_wf ls ∧ ∀ (i : Nat) (v : AV), L[i]? = some (some v) → ls[i]? = some (.val (cv E v))
def lvl (E : En) (L : List (Option AV)) : List (Nat × Value) := (List.range L.length).filterMap (fun i => match L[i]? with
  | some (some v) => some (i, cv E v)
  | _ => none)
theorem lvl_mem {E : En} {L : List (Option AV)} {i : Nat} {x : Value} : (i, x) ∈ lvl E L ↔ ∃ v, L[i]? = some (some v) ∧ x = cv E v := by
  unfold lvl
  rw [List.mem_filterMap]
  constructor
  · rintro ⟨j, -, h⟩
    split at h
    · rename_i v hv
      cases h
      exact ⟨v, hv, rfl⟩
    · cases h
  · rintro ⟨v, hv, rfl⟩
    exact ⟨i, List.mem_range.mpr (List.getElem?_eq_some_iff.mp hv).1, by simp [hv]⟩
theorem LR.has {E : En} {nL : Nat} {ls : Array Slot} {L : List (Option AV)} (h : LR E nL ls L) : lv_has ls nL (lvl E L) := by
  refine ⟨h.1, h.2.1, fun q hq => ?_⟩
  obtain ⟨i, x⟩ := q
  obtain ⟨v, hv, rfl⟩ := lvl_mem.mp hq
  exact h.2.2 i v hv
def drL (L : List (Option AV)) : Nat → List (Option AV)
  | 0 => L
  | j + 1 => match L[j]? with
    | some (some (.inr (.inl _))) => L.set j none
    | _ => L
def crL (L : List (Option AV)) (i : Nat) : Bool → List (Option AV)
  | true => L.set i none
  | false => L
def stL (L : List (Option AV)) (i : Nat) (v : AV) : List (Option AV) := (crL (drL L i) (i + 1) (isJ v)).set i (some v)
theorem cv_cat (E : En) (v : AV) : (cv E v).category = 2 ↔ isJ v = true := by
  rcases v with x | x | x | x | x <;> simp [cv, isJ, Value.category]
theorem set_mem {L : List (Option AV)} {i j : Nat} {o : Option AV} {u : AV} (h : (L.set i o)[j]? = some (some u)) : (j = i ∧ o = some u) ∨ (j ≠ i ∧ L[j]? = some (some u)) := by
  by_cases hj : j = i
  · subst hj
    have hl : j < (L.set j o).length := (List.getElem?_eq_some_iff.mp h).1
    rw [List.length_set] at hl
    rw [List.getElem?_set_self hl] at h
    exact Or.inl ⟨rfl, Option.some.inj h⟩
  · rw [List.getElem?_set_ne (Ne.symm hj)] at h
    exact Or.inr ⟨hj, h⟩
theorem drL_mem {L : List (Option AV)} {i j : Nat} {u : AV} (h : (drL L i)[j]? = some (some u)) : L[j]? = some (some u) ∧ ¬ (j + 1 = i ∧ isJ u = true) := by
  cases i with
  | zero => exact ⟨h, fun z => by omega⟩
  | succ i =>
    simp only [drL] at h
    split at h
    · rename_i x hx
      rcases set_mem h with ⟨-, h2⟩ | ⟨h1, h2⟩
      · cases h2
      · exact ⟨h2, fun z => h1 (by omega)⟩
    · rename_i hno
      refine ⟨h, fun z => ?_⟩
      have e2 : j = i := by omega
      subst e2
      rcases u with x | x | x
      · simp [isJ] at z
      · exact hno x h
      · simp [isJ] at z
theorem crL_mem {L : List (Option AV)} {i j : Nat} {b : Bool} {u : AV} (h : (crL L i b)[j]? = some (some u)) : L[j]? = some (some u) ∧ (b = true → j ≠ i) := by
  cases b with
  | false => exact ⟨h, fun z => by cases z⟩
  | true =>
    rcases set_mem h with ⟨-, h2⟩ | ⟨h1, h2⟩
    · cases h2
    · exact ⟨h2, fun _ => h1⟩
theorem stL_mem {L : List (Option AV)} {i : Nat} {v : AV} {j : Nat} {u : AV} (h : (stL L i v)[j]? = some (some u)) :
    (j = i ∧ u = v) ∨ (j ≠ i ∧ L[j]? = some (some u) ∧ (isJ v = true → j ≠ i + 1) ∧ ¬ (j + 1 = i ∧ isJ u = true)) := by
  rcases set_mem h with ⟨h1, h2⟩ | ⟨h1, h2⟩
  · exact Or.inl ⟨h1, (Option.some.inj h2).symm⟩
  · obtain ⟨h3, h4⟩ := crL_mem h2
    obtain ⟨h5, h6⟩ := drL_mem h3
    exact Or.inr ⟨h1, h5, h4, h6⟩
theorem LR.store1 {E : En} {nL : Nat} {ls : Array Slot} {L : List (Option AV)} {i : Nat} {v : AV} (hv : isJ v = false) (h : lv_has ls nL ((i, cv E v) :: (lvl E L).filter (fun q => !(q.1 == i) && !(q.1 + 1 == i && q.2.category == 2)))) : LR E nL ls (stL L i v) := by
  refine ⟨h.1, h.2.1, fun j u hu => ?_⟩
  rcases stL_mem hu with ⟨rfl, rfl⟩ | ⟨h1, h2, h3, h4⟩
  · exact h.2.2 (j, cv E u) List.mem_cons_self
  · refine h.2.2 (j, cv E u) (List.mem_cons_of_mem _ (List.mem_filter.mpr ⟨lvl_mem.mpr ⟨u, h2, rfl⟩, ?_⟩))
    have h5 : ¬ (j + 1 = i ∧ (cv E u).category = 2) := fun z => h4 ⟨z.1, (cv_cat E u).mp z.2⟩
    simp only [Bool.and_eq_true, Bool.not_eq_true', beq_eq_false_iff_ne, ne_eq, Bool.and_eq_false_iff]
    refine ⟨h1, ?_⟩
    by_cases e2 : j + 1 = i
    · exact Or.inr (fun z => h5 ⟨e2, z⟩)
    · exact Or.inl e2
theorem LR.store2 {E : En} {nL : Nat} {ls : Array Slot} {L : List (Option AV)} {i : Nat} {v : AV} (hv : isJ v = true) (h : lv_has ls nL ((i, cv E v) :: (lvl E L).filter (fun q => !(q.1 == i) && (!(q.1 == i + 1) && !(q.1 + 1 == i && q.2.category == 2))))) : LR E nL ls (stL L i v) := by
  refine ⟨h.1, h.2.1, fun j u hu => ?_⟩
  rcases stL_mem hu with ⟨rfl, rfl⟩ | ⟨h1, h2, h3, h4⟩
  · exact h.2.2 (j, cv E u) List.mem_cons_self
  · refine h.2.2 (j, cv E u) (List.mem_cons_of_mem _ (List.mem_filter.mpr ⟨lvl_mem.mpr ⟨u, h2, rfl⟩, ?_⟩))
    have h5 : ¬ (j + 1 = i ∧ (cv E u).category = 2) := fun z => h4 ⟨z.1, (cv_cat E u).mp z.2⟩
    simp only [Bool.and_eq_true, Bool.not_eq_true', beq_eq_false_iff_ne, ne_eq, Bool.and_eq_false_iff]
    refine ⟨h1, h3 hv, ?_⟩
    by_cases e2 : j + 1 = i
    · exact Or.inr (fun z => h5 ⟨e2, z⟩)
    · exact Or.inl e2
/-- the locals at a method's entry -/
def enL : List AV → List (Option AV)
  | [] => []
  | v :: vs => match isJ v with
    | true => some v :: none :: enL vs
    | false => some v :: enL vs
theorem enL_mem (E : En) : ∀ (vs : List AV) (b j : Nat) (u : AV), (enL vs)[j]? = some (some u) → (b + j, cv E u) ∈ lv_args b (vs.map (cv E))
  | [], b, j, u, h => by simp [enL] at h
  | v :: vs, b, j, u, h => by
    have ih := enL_mem E vs
    simp only [List.map_cons, lv_args]
    unfold enL at h
    cases hv : isJ v with
    | true =>
      rw [hv] at h
      rw [if_pos ((cv_cat E v).mpr hv)]
      match j, h with
      | 0, h => cases h; exact List.mem_cons_self
      | 1, h => cases h
      | j + 2, h =>
        refine List.mem_cons_of_mem _ ?_
        have := ih (b + 2) j u h
        rwa [show b + 2 + j = b + (j + 2) by omega] at this
    | false =>
      rw [hv] at h
      rw [if_neg (fun z => by rw [(cv_cat E v).mp z] at hv; cases hv)]
      match j, h with
      | 0, h => cases h; exact List.mem_cons_self
      | j + 1, h =>
        refine List.mem_cons_of_mem _ ?_
        have := ih (b + 1) j u h
        rwa [show b + 1 + j = b + (j + 1) by omega] at this
def padL (n : Nat) (L : List (Option AV)) : List (Option AV) := L ++ List.replicate (n - L.length) none
theorem enL_len (E : En) : ∀ vs : List AV, (enL vs).length = (lg_sl (vs.map (cv E))).length
  | [] => rfl
  | v :: vs => by
    have ih := enL_len E vs
    unfold enL
    simp only [List.map_cons, lg_sl, List.flatMap_cons, List.length_append]
    unfold lg_sl at ih
    cases hv : isJ v with
    | true => simp only [List.length_cons, ih, if_pos ((cv_cat E v).mpr hv), List.length_nil]; omega
    | false => simp only [List.length_cons, ih, if_neg (fun z => by rw [(cv_cat E v).mp z] at hv; cases hv), List.length_nil]; omega
theorem LR.entry (E : En) (vs : List AV) {n : Nat} (h : (enL vs).length ≤ n) : LR E n ((lg_sl (vs.map (cv E)) ++ List.replicate (n - (lg_sl (vs.map (cv E))).length) Slot.unset).toArray) (padL n (enL vs)) := by
  have h0 := lv_entry (vs.map (cv E)) (n := n) (by rw [← enL_len E vs]; exact h)
  refine ⟨h0.1, h0.2.1, fun i v hv => ?_⟩
  refine h0.2.2 (i, cv E v) ?_
  have hj : (enL vs)[i]? = some (some v) := by
    unfold padL at hv
    by_cases hi : i < (enL vs).length
    · rwa [List.getElem?_append_left hi] at hv
    · rw [List.getElem?_append_right (by omega)] at hv
      have := List.mem_of_getElem? hv
      rw [List.mem_replicate] at this
      cases this.2
  have := enL_mem E vs 0 i v hj
  rwa [Nat.zero_add] at this
/-- nothing is lost where less is known -/
def lesL : List (Option AV) → List Bool → List (Option AV)
  | [], _ => []
  | a :: L, [] => a :: L
  | a :: L, b :: bs => (match b with | true => a | false => none) :: lesL L bs
theorem lesL_mem : ∀ (L : List (Option AV)) (bs : List Bool) (i : Nat) (v : AV), (lesL L bs)[i]? = some (some v) → L[i]? = some (some v)
  | [], _, i, v, h => by simp [lesL] at h
  | a :: L, [], i, v, h => h
  | a :: L, b :: bs, 0, v, h => by
    cases b
    · cases h
    · exact h
  | a :: L, b :: bs, i + 1, v, h => lesL_mem L bs i v h
