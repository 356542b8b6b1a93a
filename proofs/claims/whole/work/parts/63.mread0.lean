/-! how the reference's reading goes along the text -/
theorem rd_bad {tx : List Nat} {j : Nat} (h : (rdA (tx.take j)).1 = 0) : (rdA tx).1 ≠ 1 := by
  have e : rdA tx = (tx.drop j).foldl rdS (rdA (tx.take j)) := by
    unfold rdA
    rw [← List.foldl_append, List.take_append_drop]
  rw [e, rdF_0 _ _ h, h]
  decide
theorem rd_sp {tx : List Nat} {i : Nat} : ∀ k, (∀ p, i ≤ p → p < i + k → tx[p]? = some 32) → rdA (tx.take (i + k)) = if k = 0 then rdA (tx.take i) else (if (rdA (tx.take i)).1 = 3 then 4 else (rdA (tx.take i)).1, (rdA (tx.take i)).2)
  | 0, _ => rfl
  | k + 1, h => by
    rw [← Nat.add_assoc, rd_take tx (h (i + k) (by omega) (by omega)), rd_sp k (fun p a b => h p a (by omega)), if_neg (show ¬ k + 1 = 0 by omega)]
    have sp : ∀ q : RQ, rdS q 32 = (if q.1 = 3 then 4 else q.1, q.2) := fun q => by
      unfold rdS
      rw [if_neg (by omega), if_pos rfl]
    rw [sp]
    by_cases hk : k = 0
    · rw [if_pos hk]
    · rw [if_neg hk]
      by_cases h3 : (rdA (tx.take i)).1 = 3
      · simp [h3]
      · simp [h3]
/-- what a non-digit, non-blank sign does in a cycle -/
theorem rd_non {q : RQ} {c : Nat} (h1 : ¬ (48 ≤ c ∧ c ≤ 57)) (h2 : c ≠ 32) (h3 : q.1 ≠ 1) (h4 : c ≠ 41 ∨ ¬ (q.1 = 3 ∨ q.1 = 4)) : (rdS q c).1 = 0 := by
  unfold rdS
  rw [if_neg h1, if_neg h2, if_neg (fun z => h3 z.2), if_neg (fun z => by
    rcases h4 with h | h
    · exact h z.1
    · exact h z.2)]
theorem rd_dig {q : RQ} {c : Nat} (h : 48 ≤ c ∧ c ≤ 57) (hq : q.1 = 2 ∨ q.1 = 4) : rdS q c = (3, q.2.1 ++ [(c - 48, q.2.2)], q.2.2) := by
  unfold rdS rdD
  rw [if_pos h, if_pos hq]
theorem las_app (ns : List (Nat × Nat)) (x : Nat × Nat) : lasN (ns ++ [x]) = x := by
  unfold lasN
  rw [List.getD_eq_getElem?_getD, List.length_append, List.length_singleton, Nat.add_sub_cancel, List.getElem?_append_right (Nat.le_refl _), Nat.sub_self]
  rfl
theorem set_app (ns : List (Nat × Nat)) (x y : Nat × Nat) : (ns ++ [x]).set ((ns ++ [x]).length - 1) y = ns ++ [y] := by
  rw [List.length_append, List.length_singleton, Nat.add_sub_cancel, List.set_append_right _ _ (Nat.le_refl _), Nat.sub_self]
  rfl
theorem rd_dig2 {ns : List (Nat × Nat)} {hd d c : Nat} (h : 48 ≤ c ∧ c ≤ 57) (h1 : 1 ≤ d) (h9 : d ≤ 9) : rdS (3, ns ++ [(d, hd)], hd) c = (3, ns ++ [(10 * d + (c - 48), hd)], hd) := by
  unfold rdS rdD
  rw [if_pos h, if_neg (by simp)]
  simp only [las_app, set_app]
  rw [if_pos ⟨trivial, h1, h9⟩]
theorem rd_digX {ns : List (Nat × Nat)} {hd d c : Nat} (h : 48 ≤ c ∧ c ≤ 57) (h1 : ¬ (1 ≤ d ∧ d ≤ 9)) : (rdS (3, ns ++ [(d, hd)], hd) c).1 = 0 := by
  unfold rdS rdD
  rw [if_pos h, if_neg (by simp)]
  simp only [las_app]
  rw [if_neg (fun z => h1 z.2)]
theorem nmN_l {ns : List (Nat × Nat)} {x : Nat × Nat} {i : Nat} (h : i < ns.length) : nmN (ns ++ [x]) i = nmN ns i := by
  unfold nmN
  rw [List.getD_eq_getElem?_getD, List.getD_eq_getElem?_getD, List.getElem?_append_left h]
theorem nmN_r {ns : List (Nat × Nat)} {x : Nat × Nat} : nmN (ns ++ [x]) ns.length = x.1 := by
  unfold nmN
  rw [List.getD_eq_getElem?_getD, List.getElem?_append_right (Nat.le_refl _), Nat.sub_self]
  rfl
theorem nmN_mem {ns : List (Nat × Nat)} {p : Nat} : (∃ x ∈ ns, x.1 = p) ↔ ∃ i, i < ns.length ∧ nmN ns i = p := by
  constructor
  · rintro ⟨x, hx, rfl⟩
    obtain ⟨i, hi⟩ := List.getElem?_of_mem hx
    have hl := (List.getElem?_eq_some_iff.mp hi).1
    refine ⟨i, hl, ?_⟩
    have := nm_get hl
    rw [hi] at this
    rw [Option.some.inj this]
  · rintro ⟨i, hi, rfl⟩
    exact ⟨_, List.mem_of_getElem? (nm_get hi), rfl⟩
theorem ndN_app {ns : List (Nat × Nat)} {v hd : Nat} : ndN (ns ++ [(v, hd)]) ↔ ndN ns ∧ ∀ x ∈ ns, x.1 ≠ v := by
  unfold ndN
  rw [List.length_append, List.length_singleton]
  constructor
  · intro h
    refine ⟨fun i j hij hj => ?_, fun x hx e => ?_⟩
    · have := h i j hij (by omega)
      rwa [nmN_l (by omega), nmN_l hj] at this
    · obtain ⟨i, hi, e2⟩ := nmN_mem.mp ⟨x, hx, e⟩
      have := h i ns.length hi (by omega)
      rw [nmN_l hi, nmN_r] at this
      exact this e2
  · rintro ⟨h1, h2⟩ i j hij hj
    by_cases e : j < ns.length
    · rw [nmN_l (by omega), nmN_l e]
      exact h1 i j hij e
    · have : j = ns.length := by omega
      subst this
      rw [nmN_l hij, nmN_r]
      intro z
      obtain ⟨x, hx, e3⟩ := nmN_mem.mpr ⟨i, hij, rfl⟩
      exact h2 x hx (e3.trans z)
/-- the row while a cycle stands open -/
def opR (ns : List (Nat × Nat)) (hd p : Nat) : Nat := if hd < ns.length ∧ p = nmN ns (ns.length - 1) then p else pR ns ns.length p
theorem nm_cs (ns : List (Nat × Nat)) (p : Nat) : (∃ i, i < ns.length ∧ nmN ns i = p) ∨ ∀ i, i < ns.length → nmN ns i ≠ p := by
  by_cases z : ∃ i, i < ns.length ∧ nmN ns i = p
  · exact Or.inl z
  · exact Or.inr (fun i hi e => z ⟨i, hi, e⟩)
theorem opR_add {ns : List (Nat × Nat)} {v hd : Nat} (hnd : ndN (ns ++ [(v, hd)])) (hB : HdB ns) (hle : hd ≤ ns.length) (hop : ∀ j, hd ≤ j → j < ns.length → hdN ns j = hd) (p : Nat) : opR (ns ++ [(v, hd)]) hd p = if hd < ns.length ∧ p = nmN ns (ns.length - 1) then v else opR ns hd p := by
  obtain ⟨h1, h2⟩ := ndN_app.mp hnd
  have hv : ∀ i, i < ns.length → nmN ns i ≠ v := fun i hi e => by
    obtain ⟨x, hx, e3⟩ := nmN_mem.mpr ⟨i, hi, rfl⟩
    exact h2 x hx (e3.trans e)
  have e1 : opR (ns ++ [(v, hd)]) hd p = if p = v then p else pR (ns ++ [(v, hd)]) (ns.length + 1) p := by
    unfold opR
    rw [List.length_append, List.length_singleton, Nat.add_sub_cancel, nmN_r]
    by_cases e : p = v
    · rw [if_pos ⟨by omega, e⟩, if_pos e]
    · rw [if_neg (fun z => e z.2), if_neg e]
  rw [e1]
  by_cases e : p = v
  · rw [if_pos e, if_neg (fun z => hv (ns.length - 1) (by omega) (z.2.symm.trans e))]
    unfold opR
    rw [if_neg (fun z => hv (ns.length - 1) (by omega) (z.2.symm.trans e))]
    exact (pR_miss _ _ (fun i hi z => hv i hi (z.trans e))).symm
  · rw [if_neg e]
    rcases nm_cs ns p with ⟨i, hi, rfl⟩ | hno
    · have hh := pR_hit hnd (ns.length + 1) i (by omega) (by simp)
      rw [nmN_l hi] at hh
      rw [hh]
      have hl : hdN (ns ++ [(v, hd)]) i = hdN ns i := by rw [hdN_app, if_pos hi]
      by_cases ei : i = ns.length - 1
      · by_cases eh : hd < ns.length
        · have en : nxt (ns ++ [(v, hd)]) i = ns.length := by
            unfold nxt
            rw [List.length_append, List.length_singleton, hl, if_neg, show i + 1 = ns.length by omega]
            rintro (z | z)
            · omega
            · apply z
              rw [hdN_app, if_neg (by omega), if_pos (by omega), hop i (by omega) hi]
          rw [en, nmN_r, if_pos ⟨eh, by rw [ei]⟩]
        · have en : nxt (ns ++ [(v, hd)]) i = hdN ns i := by
            unfold nxt
            rw [List.length_append, List.length_singleton, hl, if_pos]
            refine Or.inr ?_
            rw [hdN_app, if_neg (by omega), if_pos (by omega)]
            have := (hB i hi).1
            show hd ≠ _
            omega
          have hb := (hB i hi).1
          rw [en, nmN_l (by omega), if_neg (fun z => eh z.1)]
          unfold opR
          rw [if_neg (fun z => eh z.1), pR_hit h1 ns.length i hi (Nat.le_refl _)]
          unfold nxt
          rw [if_pos (Or.inl (by omega))]
      · have hne : nmN ns i ≠ nmN ns (ns.length - 1) := h1 i (ns.length - 1) (by omega) (by omega)
        rw [if_neg (fun z => hne z.2)]
        unfold opR
        rw [if_neg (fun z => hne z.2), pR_hit h1 ns.length i hi (Nat.le_refl _)]
        have hl1 : hdN (ns ++ [(v, hd)]) (i + 1) = hdN ns (i + 1) := by rw [hdN_app, if_pos (by omega)]
        have en : nxt (ns ++ [(v, hd)]) i = nxt ns i := by
          unfold nxt
          rw [List.length_append, List.length_singleton, hl, hl1]
          by_cases q : hdN ns (i + 1) ≠ hdN ns i
          · rw [if_pos (Or.inr q), if_pos (Or.inr q)]
          · rw [if_neg (fun z => z.elim (fun y => by omega) q), if_neg (fun z => z.elim (fun y => by omega) q)]
        rw [en, nmN_l (nxt_lt hB hi)]
    · have hlast : ¬ (hd < ns.length ∧ p = nmN ns (ns.length - 1)) := fun z => hno (ns.length - 1) (by omega) z.2.symm
      rw [if_neg hlast]
      unfold opR
      rw [if_neg hlast, pR_miss _ _ hno]
      refine pR_miss _ _ (fun i hi => ?_)
      by_cases q : i < ns.length
      · rw [nmN_l q]
        exact hno i q
      · rw [show i = ns.length by omega, nmN_r]
        exact Ne.symm e
theorem opR_close {ns : List (Nat × Nat)} {hd : Nat} (hnd : ndN ns) (hlt : hd < ns.length) (hop : hdN ns (ns.length - 1) = hd) (p : Nat) : pR ns ns.length p = if p = nmN ns (ns.length - 1) then nmN ns hd else opR ns hd p := by
  by_cases e : p = nmN ns (ns.length - 1)
  · rw [if_pos e, e, pR_hit hnd ns.length (ns.length - 1) (by omega) (Nat.le_refl _)]
    unfold nxt
    rw [if_pos (Or.inl (by omega)), hop]
  · rw [if_neg e]
    unfold opR
    rw [if_neg (fun z => e z.2)]
def KD (n : Nat) (ns : List (Nat × Nat)) (code : Nat) : Prop := (code = 2 ∧ ¬ ∀ x ∈ ns, x.1 < n) ∨ (code = 3 ∧ (∀ x ∈ ns, x.1 < n) ∧ ¬ ndN ns) ∨ (code = 0 ∧ (∀ x ∈ ns, x.1 < n) ∧ ndN ns)
def MK (n : Nat) (ns : List (Nat × Nat)) (k : Nat) : Prop := k < 2 ^ 12 ∧ ∀ p, k.testBit p = true ↔ p < n ∧ ∃ x ∈ ns, x.1 = p
theorem all_app {ns : List (Nat × Nat)} {v hd n : Nat} : (∀ x ∈ ns ++ [(v, hd)], x.1 < n) ↔ (∀ x ∈ ns, x.1 < n) ∧ v < n := by
  constructor
  · exact fun h => ⟨fun x hx => h x (List.mem_append_left _ hx), h (v, hd) (List.mem_append_right _ List.mem_cons_self)⟩
  · rintro ⟨h1, h2⟩ x hx
    rcases List.mem_append.mp hx with hx | hx
    · exact h1 x hx
    · rw [List.mem_singleton.mp hx]
      exact h2
theorem KD.out {n : Nat} {ns : List (Nat × Nat)} {v hd : Nat} (hv : n ≤ v) : KD n (ns ++ [(v, hd)]) 2 := Or.inl ⟨rfl, fun h => by
  have := (all_app.mp h).2
  omega⟩
theorem KD.inn {n code k : Nat} {ns : List (Nat × Nat)} {v hd : Nat} (h : KD n ns code) (hk : MK n ns k) (hv : v < n) : KD n (ns ++ [(v, hd)]) (if code = 0 ∧ k.testBit v = true then 3 else code) := by
  rcases h with ⟨rfl, h⟩ | ⟨rfl, h1, h2⟩ | ⟨rfl, h1, h2⟩
  · rw [if_neg (by omega)]
    exact Or.inl ⟨rfl, fun z => h (all_app.mp z).1⟩
  · rw [if_neg (by omega)]
    exact Or.inr (Or.inl ⟨rfl, all_app.mpr ⟨h1, hv⟩, fun z => h2 (ndN_app.mp z).1⟩)
  · by_cases hb : k.testBit v = true
    · rw [if_pos ⟨rfl, hb⟩]
      obtain ⟨x, hx, e⟩ := ((hk.2 v).mp hb).2
      exact Or.inr (Or.inl ⟨rfl, all_app.mpr ⟨h1, hv⟩, fun z => (ndN_app.mp z).2 x hx e⟩)
    · rw [if_neg (fun z => hb z.2)]
      exact Or.inr (Or.inr ⟨rfl, all_app.mpr ⟨h1, hv⟩, ndN_app.mpr ⟨h2, fun x hx e => hb ((hk.2 v).mpr ⟨hv, x, hx, e⟩)⟩⟩)
theorem MK.out {n k : Nat} {ns : List (Nat × Nat)} {v hd : Nat} (h : MK n ns k) (hv : n ≤ v) : MK n (ns ++ [(v, hd)]) k := ⟨h.1, fun p => by
  rw [h.2 p]
  constructor
  · rintro ⟨a, x, hx, e⟩
    exact ⟨a, x, List.mem_append_left _ hx, e⟩
  · rintro ⟨a, x, hx, e⟩
    rcases List.mem_append.mp hx with hx | hx
    · exact ⟨a, x, hx, e⟩
    · rw [List.mem_singleton.mp hx] at e
      have e : v = p := e
      omega⟩
theorem MK.inn {n k : Nat} {ns : List (Nat × Nat)} {v hd : Nat} (h : MK n ns k) (hn : n ≤ 12) (hv : v < n) : MK n (ns ++ [(v, hd)]) (k ||| 2 ^ v) := ⟨Nat.or_lt_two_pow h.1 (Nat.pow_lt_pow_right (by decide) (by omega)), fun p => by
  rw [tb_or, h.2 p]
  constructor
  · rintro (⟨a, x, hx, e⟩ | rfl)
    · exact ⟨a, x, List.mem_append_left _ hx, e⟩
    · exact ⟨hv, _, List.mem_append_right _ List.mem_cons_self, rfl⟩
  · rintro ⟨a, x, hx, e⟩
    rcases List.mem_append.mp hx with hx | hx
    · exact Or.inl ⟨a, x, hx, e⟩
    · rw [List.mem_singleton.mp hx] at e
      exact Or.inr e.symm⟩
