/-! the row that was read is a permutation -/
def RqH (q : RQ) : Prop := (∀ i, i < q.2.1.length → hdN q.2.1 i ≤ i ∧ ∀ j, hdN q.2.1 i ≤ j → j ≤ i → hdN q.2.1 j = hdN q.2.1 i) ∧ (q.1 = 2 → q.2.2 = q.2.1.length) ∧ ((q.1 = 3 ∨ q.1 = 4) → ∀ j, q.2.2 ≤ j → j < q.2.1.length → hdN q.2.1 j = q.2.2)
theorem hdN_app {ns : List (Nat × Nat)} {x : Nat × Nat} {i : Nat} : hdN (ns ++ [x]) i = if i < ns.length then hdN ns i else if i = ns.length then x.2 else 0 := by
  unfold hdN
  simp only [List.getD_eq_getElem?_getD]
  by_cases h : i < ns.length
  · rw [if_pos h, List.getElem?_append_left h]
  · rw [if_neg h, List.getElem?_append_right (by omega)]
    by_cases h2 : i = ns.length
    · rw [if_pos h2, show i - ns.length = 0 by omega]; rfl
    · rw [if_neg h2, show i - ns.length = (i - ns.length - 1) + 1 by omega]; rfl
theorem hdN_set {ns : List (Nat × Nat)} {v : Nat} {i : Nat} (h : 0 < ns.length) : hdN (ns.set (ns.length - 1) (v, (lasN ns).2)) i = hdN ns i := by
  unfold hdN
  simp only [List.getD_eq_getElem?_getD]
  by_cases e : i = ns.length - 1
  · subst e
    rw [List.getElem?_set_self (by omega), lasN_get h]
    rfl
  · rw [List.getElem?_set_ne (Ne.symm e)]
theorem rdD_H {q : RQ} (h : RqH q) (hB : RqB q) (d : Nat) : RqH (rdD q d) := by
  obtain ⟨h1, h2, h3⟩ := h
  unfold rdD
  split
  · rename_i hs
    have hall : ∀ j, q.2.2 ≤ j → j < q.2.1.length → hdN q.2.1 j = q.2.2 := by
      rcases hs with hs | hs
      · intro j a b
        have := h2 hs
        omega
      · exact h3 (Or.inr hs)
    refine ⟨fun i hi => ?_, (fun z => by cases z), fun _ j a b => ?_⟩
    · simp only [List.length_append, List.length_cons, List.length_nil] at hi
      by_cases e : i < q.2.1.length
      · refine ⟨?_, fun j a b => ?_⟩
        · rw [hdN_app, if_pos e]; exact (h1 i e).1
        · simp only [hdN_app] at a ⊢
          rw [if_pos e] at a
          rw [if_pos e, if_pos (by omega)]
          exact (h1 i e).2 j a b
      · have e2 : i = q.2.1.length := by omega
        subst e2
        refine ⟨?_, fun j a b => ?_⟩
        · rw [hdN_app, if_neg e, if_pos rfl]; exact hB.2.1
        · have e0 : hdN (q.2.1 ++ [(d, q.2.2)]) q.2.1.length = q.2.2 := by rw [hdN_app, if_neg e, if_pos rfl]
          rw [e0]
          have a : q.2.2 ≤ j := by rw [← e0]; exact a
          rw [hdN_app]
          split
          · exact hall j a (by omega)
          · rw [if_pos (by omega)]
    · simp only [List.length_append, List.length_cons, List.length_nil] at a b ⊢
      rw [hdN_app]
      split
      · exact hall j a (by omega)
      · rw [if_pos (by omega)]
  · split
    · rename_i hs
      have hp : 0 < q.2.1.length := hB.2.2.1 hs.1
      refine ⟨fun i hi => ?_, (fun z => by cases z), fun _ j a b => ?_⟩
      · simp only [List.length_set] at hi
        refine ⟨?_, fun j a b => ?_⟩
        · rw [hdN_set hp]; exact (h1 i hi).1
        · simp only [hdN_set hp] at a ⊢
          exact (h1 i hi).2 j a b
      · simp only [List.length_set] at a b ⊢
        rw [hdN_set hp]
        exact h3 (Or.inl hs.1) j a b
    · exact ⟨h1, (fun z => by cases z), (fun z => by rcases z with z | z <;> cases z)⟩
theorem rdS_H {q : RQ} (h : RqH q) (hB : RqB q) (c : Nat) : RqH (rdS q c) := by
  unfold rdS
  split
  · exact rdD_H h hB _
  · obtain ⟨h1, h2, h3⟩ := h
    split
    · refine ⟨h1, fun z => ?_, fun z => ?_⟩
      · simp only at z
        split at z
        · cases z
        · exact h2 z
      · simp only at z
        split at z
        · rename_i e
          exact h3 (Or.inl e)
        · exact h3 z
    · split
      · exact ⟨h1, fun _ => rfl, (fun z => by rcases z with z | z <;> cases z)⟩
      · split
        · exact ⟨h1, (fun z => by cases z), (fun z => by rcases z with z | z <;> cases z)⟩
        · exact ⟨h1, (fun z => by cases z), (fun z => by rcases z with z | z <;> cases z)⟩
theorem rdF_H (tx : List Nat) : ∀ q, RqH q → RqB q → RqH (tx.foldl rdS q) := by
  induction tx with
  | nil => exact fun q h _ => h
  | cons c tx ih => exact fun q h hB => ih _ (rdS_H h hB c) (rdS_B hB c)
theorem rdA_H (tx : List Nat) : RqH (rdA tx) := rdF_H tx rd0 ⟨(fun i hi => by simp [rd0] at hi), (fun z => by cases z), (fun z => by rcases z with z | z <;> cases z)⟩ rd0_B
theorem rdA_B (tx : List Nat) : RqB (rdA tx) := rdF_B tx rd0 rd0_B
def HdB (ns : List (Nat × Nat)) : Prop := ∀ i, i < ns.length → hdN ns i ≤ i ∧ ∀ j, hdN ns i ≤ j → j ≤ i → hdN ns j = hdN ns i
theorem nxt_lt {ns : List (Nat × Nat)} (h : HdB ns) {i : Nat} (hi : i < ns.length) : nxt ns i < ns.length := by
  unfold nxt
  have := (h i hi).1
  split <;> omega
theorem nxt_inj {ns : List (Nat × Nat)} (h : HdB ns) {i j : Nat} (hi : i < ns.length) (hj : j < ns.length) (e : nxt ns i = nxt ns j) : i = j := by
  have key : ∀ a b, a < ns.length → b < ns.length → a < b → nxt ns a = nxt ns b → False := by
    intro a b ha hb hab e
    unfold nxt at e
    have a1 := h a ha
    have b1 := h b hb
    split at e
    · rename_i la
      have la : hdN ns (a + 1) ≠ hdN ns a := by
        rcases la with la | la
        · omega
        · exact la
      split at e
      · have := b1.2 (a + 1) (by omega) (by omega)
        omega
      · omega
    · rename_i la
      split at e
      · rename_i lb
        have la2 : hdN ns (a + 1) = hdN ns a := by
          by_cases z : hdN ns (a + 1) = hdN ns a
          · exact z
          · exact absurd (Or.inr z) la
        have := b1.2 (a + 1) (by omega) (by omega)
        omega
      · omega
  rcases Nat.lt_trichotomy i j with z | z | z
  · exact (key i j hi hj z e).elim
  · exact z
  · exact (key j i hj hi z e.symm).elim
theorem pR_hit {ns : List (Nat × Nat)} (hd : ndN ns) : ∀ c i, i < c → c ≤ ns.length → pR ns c (nmN ns i) = nmN ns (nxt ns i)
  | 0, i, h, _ => by omega
  | c + 1, i, h, hc => by
    show (if nmN ns i = nmN ns c then nmN ns (nxt ns c) else pR ns c (nmN ns i)) = _
    by_cases e : i = c
    · subst e
      rw [if_pos rfl]
    · rw [if_neg (hd i c (by omega) (by omega))]
      exact pR_hit hd c i (by omega) (by omega)
theorem pR_miss {ns : List (Nat × Nat)} : ∀ c p, (∀ i, i < c → nmN ns i ≠ p) → pR ns c p = p
  | 0, p, _ => rfl
  | c + 1, p, h => by
    show (if p = nmN ns c then nmN ns (nxt ns c) else pR ns c p) = _
    rw [if_neg (fun z => h c (by omega) z.symm)]
    exact pR_miss c p (fun i hi => h i (by omega))
/-- a permutation that leaves what is not below n -/
def Lw (n : Nat) (f : Nat → Nat) : Prop := Pm f ∧ ∀ j, n ≤ j → f j = j
theorem pR_Lw {ns : List (Nat × Nat)} {n : Nat} (hn : n ≤ 12) (h : HdB ns) (hd : ndN ns) (hlt : ∀ x ∈ ns, x.1 < n) : Lw n (pR ns ns.length) := by
  have hl : ∀ i, i < ns.length → nmN ns i < n := fun i hi => hlt _ (List.mem_of_getElem? (nm_get hi))
  have hfix : ∀ j, n ≤ j → pR ns ns.length j = j := fun j hj => pR_miss _ _ (fun i hi e => by have := hl i hi; omega)
  have cs : ∀ p, (∃ i, i < ns.length ∧ nmN ns i = p) ∨ ∀ i, i < ns.length → nmN ns i ≠ p := by
    intro p
    by_cases z : ∃ i, i < ns.length ∧ nmN ns i = p
    · exact Or.inl z
    · exact Or.inr (fun i hi e => z ⟨i, hi, e⟩)
  have injN : ∀ i j, i < ns.length → j < ns.length → nmN ns i = nmN ns j → i = j := by
    intro i j hi hj e
    rcases Nat.lt_trichotomy i j with z | z | z
    · exact (hd i j z hj e).elim
    · exact z
    · exact (hd j i z hi e.symm).elim
  refine ⟨⟨fun p hp => ?_, fun p q hp hq e => ?_, fun p hp => hfix p (by omega)⟩, hfix⟩
  · rcases cs p with ⟨i, hi, rfl⟩ | z
    · rw [pR_hit hd _ i hi (Nat.le_refl _)]
      have := hl _ (nxt_lt h hi)
      omega
    · rw [pR_miss _ _ z]
      exact hp
  · rcases cs p with ⟨i, hi, rfl⟩ | z
    · rw [pR_hit hd _ i hi (Nat.le_refl _)] at e
      rcases cs q with ⟨j, hj, rfl⟩ | z2
      · rw [pR_hit hd _ j hj (Nat.le_refl _)] at e
        rw [nxt_inj h hi hj (injN _ _ (nxt_lt h hi) (nxt_lt h hj) e)]
      · rw [pR_miss _ _ z2] at e
        exact (z2 _ (nxt_lt h hi) e).elim
    · rw [pR_miss _ _ z] at e
      rcases cs q with ⟨j, hj, rfl⟩ | z2
      · rw [pR_hit hd _ j hj (Nat.le_refl _)] at e
        exact (z _ (nxt_lt h hj) e.symm).elim
      · rw [pR_miss _ _ z2] at e
        exact e
