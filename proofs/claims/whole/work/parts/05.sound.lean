/-! the step is sound for the machine -/
theorem shp_in (k : Nat) : shp k ∈ (9, 0, 0) :: shpL := by
  unfold shp
  rw [List.getD_eq_getElem?_getD]
  cases h : shpL[k]? with
  | none => exact List.mem_cons_self
  | some x => exact List.mem_cons_of_mem _ (List.mem_of_getElem? h)
theorem shp_small (k : Nat) : (shp k).2.1 < 5000 := by
  have h : ∀ x ∈ ((9, 0, 0) :: shpL : List (Nat × Nat × Nat)), x.2.1 < 5000 := by decide
  exact h _ (shp_in k)
theorem ofT_spec {t k : Nat} {f : Nat → Prop} (h : ofT t k f) : ∃ n b : Nat, shp k = (t, n, b) ∧ f n ∧ n < 5000 := by
  have hs := shp_small k
  unfold ofT at h
  revert h hs
  generalize shp k = q
  obtain ⟨t', n, b⟩ := q
  intro h hs
  simp only at h
  split at h
  · rename_i e
    rw [Nat.eq_of_beq_eq_true e]
    exact ⟨n, b, rfl, h, hs⟩
  · exact h.elim
theorem rf_spec {E : En} {gk : Nat → Bool} {a : AV} {f : Nat → Nat → Prop} (hI : ∀ k i : Nat, gk k = true → i < cnt k → (k, i) ∈ eI E) (hf : ∀ k i : Nat, f k i → (shp k).1 ≠ 9) (h : rf gk a f) :
    ∃ k i : Nat, (k, i) ∈ eI E ∧ cv E a = .ref (eA E k i) ∧ f k i := by
  rcases a with x | x | k | q | x
  · exact h.elim
  · exact h.elim
  · simp only [rf] at h
    split at h
    · rename_i hg
      refine ⟨k, 0, hI k 0 hg ?_, rfl, h⟩
      have h9 := hf _ _ h
      unfold cnt
      split
      · omega
      · first | (rw [if_neg h9]; omega) | omega
    · exact h.elim
  · simp only [rf] at h
    split at h
    · rename_i hg
      rw [Bool.and_eq_true] at hg
      exact ⟨q.1, q.2, hI q.1 q.2 hg.1 (by rw [Nat.eq_of_beq_eq_true hg.2]; exact h.1), rfl, h.2⟩
    · exact h.elim
  · exact h.elim
theorem wcell_0 {E : En} {w : Wd} {k i n b : Nat} (h : shp k = (0, n, b)) : wcell E w k i = .inr (n, (List.range (nfl n)).map (fval E w k i n)) := by simp only [wcell, h]
theorem wcell_1 {E : En} {w : Wd} {k i n b : Nat} (h : shp k = (1, n, b)) : wcell E w k i = .inl (eC E 1, n, .inl (w.1 k i)) := by simp only [wcell, h]
theorem wcell_2 {E : En} {w : Wd} {k i n b : Nat} (h : shp k = (2, n, b)) : wcell E w k i = .inl (eC E 2, n, .inr (.inl (w.2 k i))) := by simp only [wcell, h]
theorem wcell_3 {E : En} {w : Wd} {k i n b : Nat} (h : shp k = (3, n, b)) : wcell E w k i = .inl (eC E 3, n, .inl (w.1 k i)) := by simp only [wcell, h]
theorem wcell_4 {E : En} {w : Wd} {k i n b : Nat} (h : shp k = (4, n, b)) : wcell E w k i = .inl (eC E 4, n, .inl (w.1 k i)) := by simp only [wcell, h]
theorem wcell_5 {E : En} {w : Wd} {k i n b : Nat} (h : shp k = (5, n, b)) : wcell E w k i = .inl (eC E 5, n, .inr (.inr (.inr (.inr (fun j => if j < n then some (eA E b j) else none))))) := by simp only [wcell, h]
theorem wcell_6 {E : En} {w : Wd} {k i n b : Nat} (h : shp k = (6, n, b)) : wcell E w k i = .inl (eC E 6, n, .inr (.inr (.inr (.inr (fun j => if j < n then some (eA E b j) else none))))) := by simp only [wcell, h]
theorem drL_len (L : List (Option AV)) (i : Nat) : (drL L i).length = L.length := by
  cases i with
  | zero => rfl
  | succ i =>
    simp only [drL]
    split
    · exact List.length_set
    · rfl
theorem stL_len (L : List (Option AV)) (i : Nat) (v : AV) : (stL L i v).length = L.length := by
  unfold stL
  rw [List.length_set]
  unfold crL
  split
  · rw [List.length_set, drL_len]
  · exact drL_len L i
theorem popA_spec : ∀ (n : Nat) (acc S A r : List AV), popA n acc S = some (A, r) → ∃ P : List AV, A = P ++ acc ∧ S = P.reverse ++ r ∧ P.length = n
  | 0, acc, S, A, r, h => by
    cases h
    exact ⟨[], rfl, rfl, rfl⟩
  | n + 1, acc, v :: S, A, r, h => by
    obtain ⟨P, h1, h2, h3⟩ := popA_spec n (v :: acc) S A r h
    exact ⟨P ++ [v], by rw [h1]; simp, by rw [h2]; simp, by rw [List.length_append, h3]; rfl⟩
  | n + 1, acc, [], A, r, h => by cases h
theorem catS_sum (E : En) : ∀ S : List AV, ((S.map (cv E)).map fun v => v.category).sum = catS S
  | [] => rfl
  | v :: S => by
    have ih := catS_sum E S
    simp only [List.map_cons, List.sum_cons, ih, catS]
    rcases v with x | x | x | x | x <;> simp [cv, isJ, Value.category]
/-- the fields' classes, the constants, the calls: as the tables have them -/
def clsT (cl : Nat) : String × u_T × Nat := vwCl.getD cl ("", fun _ => ("", "", "", false), 0)
def tyT (cl : Nat) : Nat → FieldType := match cl with
  | 0 => tyX0 | 1 => tyX1 | 2 => tyX3 | 3 => tyX4 | _ => tyX5
/-- an entry of the fields' table -/
def flOK (own : String) (q : Nat × Nat × Nat) : Bool :=
  decide (q.2.1 < 5) && decide (q.2.2 < (clsT q.2.1).2.2) && decide (Cond.fieldLink own q.1 ((clsT q.2.1).2.1 q.2.2).1 ((clsT q.2.1).2.1 q.2.2).2.1 ((clsT q.2.1).2.1 q.2.2).2.2.1 ∈ lw_tbl)
/-- what a field's type code says of its type -/
def tyOK (cl f : Nat) : Bool := match ftc cl f with
  | 0 => decide (tyT cl f = .int) && !((clsT cl).2.1 f).2.2.2
  | 1 => decide (tyT cl f = .boolean) && !((clsT cl).2.1 f).2.2.2
  | 2 => decide (tyT cl f = .long) && !((clsT cl).2.1 f).2.2.2
  | _ => true
theorem cls_all : ∀ cl, cl < 5 → vwCl[cl]? = some (clsT cl) ∧ (clsT cl).2.2 = nfl cl ∧ (∀ f, f < nfl cl → tyOK cl f = true) ∧ (∀ f, f < nfl cl → parseFieldDescriptor ((clsT cl).2.1 f).2.2.1 = some (tyT cl f)) := by
  intro cl hcl
  have h0 : cl = 0 ∨ cl = 1 ∨ cl = 2 ∨ cl = 3 ∨ cl = 4 := by omega
  rcases h0 with rfl | rfl | rfl | rfl | rfl
  · exact ⟨rfl, rfl, by decide +kernel, tyX0_ok⟩
  · exact ⟨rfl, rfl, by decide +kernel, tyX1_ok⟩
  · exact ⟨rfl, rfl, by decide +kernel, tyX3_ok⟩
  · exact ⟨rfl, rfl, by decide +kernel, tyX4_ok⟩
  · exact ⟨rfl, rfl, by decide +kernel, tyX5_ok⟩
theorem cls_nm : ∀ cl, cl < 5 → ∀ a, a < (clsT cl).2.2 → ∀ b, b < (clsT cl).2.2 → a ≠ b → ((clsT cl).2.1 a).2.1 ≠ ((clsT cl).2.1 b).2.1 := by
  intro cl hcl
  have h0 : cl = 0 ∨ cl = 1 ∨ cl = 2 ∨ cl = 3 ∨ cl = 4 := by omega
  rcases h0 with rfl | rfl | rfl | rfl | rfl
  · exact nmX0
  · exact nmX1
  · exact nmX3
  · exact nmX4
  · exact nmX5
theorem cls_ws : ∀ cl, cl < 5 → ∀ w ∈ u_ws (clsT cl).1 (clsT cl).2.1 (clsT cl).2.2, w ∈ lw_tbl ∧ okW w = true := by
  intro cl hcl
  have h0 : cl = 0 ∨ cl = 1 ∨ cl = 2 ∨ cl = 3 ∨ cl = 4 := by omega
  have key : ∀ (C : String) (T : u_T) (N : Nat) (w : Cond), w ∈ u_ws C T N → okW w = true := by
    intro C T N w hw
    obtain ⟨k, -, rfl⟩ := List.mem_map.mp hw
    unfold u_lay
    split <;> rfl
  rcases h0 with rfl | rfl | rfl | rfl | rfl
  · exact fun w hw => ⟨inX0 w hw, key _ _ _ w hw⟩
  · exact fun w hw => ⟨inX1 w hw, key _ _ _ w hw⟩
  · exact fun w hw => ⟨inX3 w hw, key _ _ _ w hw⟩
  · exact fun w hw => ⟨inX4 w hw, key _ _ _ w hw⟩
  · exact fun w hw => ⟨inX5 w hw, key _ _ _ w hw⟩
