theorem fb_holes : ∀ (m n : Nat) (f : Nat → Nat), (∀ i, i < n → f i < m) → (∀ i j, i < j → j < n → f i ≠ f j) → n ≤ m := by
  intro m
  induction m with
  | zero =>
    intro n f h1 _
    rcases Nat.eq_zero_or_pos n with h | h
    · omega
    · exact absurd (h1 0 h) (Nat.not_lt_zero _)
  | succ m ih =>
    intro n f h1 h2
    by_cases hx : ∃ i, i < n ∧ f i = m
    · obtain ⟨a, ha, hfa⟩ := hx
      have hg := ih (n - 1) (fun i => if i < a then f i else f (i + 1)) (by
        intro i hi
        by_cases q : i < a
        · simp only [if_pos q]
          have b1 := h1 i (by omega)
          have b2 := h2 i a q ha
          omega
        · simp only [if_neg q]
          have b1 := h1 (i + 1) (by omega)
          have b2 := h2 a (i + 1) (by omega) (by omega)
          omega) (by
        intro i j hij hj
        by_cases q : i < a
        · by_cases r : j < a
          · simp only [if_pos q, if_pos r]
            exact h2 i j hij (by omega)
          · simp only [if_pos q, if_neg r]
            exact h2 i (j + 1) (by omega) (by omega)
        · have r : ¬ j < a := by omega
          simp only [if_neg q, if_neg r]
          exact h2 (i + 1) (j + 1) (by omega) (by omega))
      omega
    · have hg := ih n f (fun i hi => by
        have b1 := h1 i hi
        have b2 : f i ≠ m := fun e => hx ⟨i, hi, e⟩
        omega) h2
      omega
/-- two of them in one place -/
theorem fb_twice {m n : Nat} {f : Nat → Nat} (h : ∀ i, i < n → f i < m) (hm : m < n) : ∃ i j, i < j ∧ j < n ∧ f i = f j := by
  refine Classical.byContradiction fun hx => ?_
  have := fb_holes m n f h (fun i j hij hj e => hx ⟨i, j, hij, hj, e⟩)
  omega
/-- as many as places, none twice: each place is taken -/
theorem fb_onto {n : Nat} {f : Nat → Nat} (h : ∀ i, i < n → f i < n) (h2 : ∀ i j, i < j → j < n → f i ≠ f j) {y : Nat} (hy : y < n) : ∃ i, i < n ∧ f i = y := by
  refine Classical.byContradiction fun hx => ?_
  have hne : ∀ i, i < n → f i ≠ y := fun i hi e => hx ⟨i, hi, e⟩
  have := fb_holes (n - 1) n (fun i => if f i < y then f i else f i - 1) (by
    intro i hi
    have b1 := h i hi
    have b2 := hne i hi
    by_cases q : f i < y
    · simp only [if_pos q]; omega
    · simp only [if_neg q]; omega) (by
    intro i j hij hj
    have b1 := hne i (by omega)
    have b2 := hne j hj
    have b3 := h2 i j hij hj
    by_cases q : f i < y
    · by_cases r : f j < y
      · simp only [if_pos q, if_pos r]; exact b3
      · simp only [if_pos q, if_neg r]; omega
    · by_cases r : f j < y
      · simp only [if_neg q, if_pos r]; omega
      · simp only [if_neg q, if_neg r]; omega)
  omega
/-! permutations of the twelve places, as functions that stay beyond them -/
def Pm (f : Nat → Nat) : Prop := (∀ i, i < 12 → f i < 12) ∧ (∀ i j, i < 12 → j < 12 → f i = f j → i = j) ∧ ∀ i, 12 ≤ i → f i = i
def cmp (f g : Nat → Nat) : Nat → Nat := fun i => g (f i)
def idp : Nat → Nat := fun i => i
def iv (f : Nat → Nat) : Nat → Nat := fun i => if i < 12 then ((List.range 12).find? (fun j => f j == i)).getD 0 else i
theorem Pm.lt16 {f : Nat → Nat} (h : Pm f) : lt16 f := fun i hi => Nat.lt_trans (h.1 i hi) (by decide)
theorem Pm.onto {f : Nat → Nat} (h : Pm f) {y : Nat} (hy : y < 12) : ∃ i, i < 12 ∧ f i = y := fb_onto h.1 (fun i j hij hj e => by
  have := h.2.1 i j (by omega) hj e
  omega) hy
theorem Pm.inj {f : Nat → Nat} (h : Pm f) {i j : Nat} (e : f i = f j) : i = j := by
  by_cases hi : i < 12
  · by_cases hj : j < 12
    · exact h.2.1 i j hi hj e
    · have h1 := h.1 i hi
      have h2 := h.2.2 j (by omega)
      omega
  · by_cases hj : j < 12
    · have h1 := h.1 j hj
      have h2 := h.2.2 i (by omega)
      omega
    · have h1 := h.2.2 i (by omega)
      have h2 := h.2.2 j (by omega)
      omega
theorem iv_of {f : Nat → Nat} (h : Pm f) {i : Nat} (hi : i < 12) : iv f (f i) = i := by
  unfold iv
  rw [if_pos (h.1 i hi)]
  cases hc : (List.range 12).find? (fun j => f j == f i) with
  | none =>
    rw [List.find?_eq_none] at hc
    exact absurd (by simp) (hc i (List.mem_range.mpr hi))
  | some j =>
    have h1 := List.find?_some hc
    have h2 := List.mem_range.mp (List.mem_of_find?_eq_some hc)
    simp only [beq_iff_eq] at h1
    exact h.2.1 j i h2 hi h1
theorem iv_hi {f : Nat → Nat} {i : Nat} (hi : 12 ≤ i) : iv f i = i := if_neg (by omega)
theorem Pm.iv_l {f : Nat → Nat} (h : Pm f) (i : Nat) : iv f (f i) = i := by
  by_cases hi : i < 12
  · exact iv_of h hi
  · rw [h.2.2 i (by omega), iv_hi (by omega)]
theorem Pm.iv_r {f : Nat → Nat} (h : Pm f) (i : Nat) : f (iv f i) = i := by
  by_cases hi : i < 12
  · obtain ⟨j, hj, rfl⟩ := h.onto hi
    rw [iv_of h hj]
  · rw [iv_hi (by omega), h.2.2 i (by omega)]
theorem Pm.id : Pm idp := ⟨fun i hi => hi, fun i j _ _ e => e, fun i _ => rfl⟩
theorem Pm.cmp {f g : Nat → Nat} (hf : Pm f) (hg : Pm g) : Pm (cmp f g) := ⟨fun i hi => hg.1 _ (hf.1 i hi), fun i j _ _ e => hf.inj (hg.inj e), fun i hi => by
  show g (f i) = i
  rw [hf.2.2 i hi, hg.2.2 i hi]⟩
theorem Pm.iv {f : Nat → Nat} (h : Pm f) : Pm (iv f) := by
  refine ⟨fun i hi => ?_, fun i j _ _ e => ?_, fun i hi => iv_hi hi⟩
  · obtain ⟨j, hj, rfl⟩ := h.onto hi
    rw [iv_of h hj]; exact hj
  · rw [← h.iv_r i, ← h.iv_r j, e]
theorem cmp_iv {f : Nat → Nat} (h : Pm f) : cmp f (iv f) = idp := funext fun i => h.iv_l i
theorem iv_cmp {f : Nat → Nat} (h : Pm f) : cmp (iv f) f = idp := funext fun i => h.iv_r i
theorem cmp_id (f : Nat → Nat) : cmp f idp = f := rfl
theorem id_cmp (f : Nat → Nat) : cmp idp f = f := rfl
theorem cmp_assoc (f g h : Nat → Nat) : cmp (cmp f g) h = cmp f (cmp g h) := rfl
theorem iv_iv {f : Nat → Nat} (h : Pm f) : iv (iv f) = f := funext fun i => by
  have h1 := h.iv.iv_r i
  have h2 := h.iv_l (iv (iv f) i)
  exact h.iv.inj (h1.trans (h.iv_l i).symm)
theorem iv_uniq {f g : Nat → Nat} (h : Pm f) (e : ∀ i, g (f i) = i) : g = iv f := funext fun i => by
  have := e (iv f i)
  rwa [h.iv_r] at this
theorem iv_cc {f g : Nat → Nat} (hf : Pm f) (hg : Pm g) : iv (cmp f g) = cmp (iv g) (iv f) := (iv_uniq (hf.cmp hg) (fun i => by
  show iv f (iv g (g (f i))) = i
  rw [hg.iv_l, hf.iv_l])).symm
theorem iv_id : iv idp = idp := (iv_uniq Pm.id (fun i => rfl)).symm
theorem rw_inj {f g : Nat → Nat} (hf : Pm f) (hg : Pm g) (h : rw f = rw g) : f = g := by
  have h1 := enc_64 hf.lt16
  have h2 := enc_64 hg.lt16
  have h3 : enc f 12 = enc g 12 := by
    have := congrArg (fun x : Int64 => x.toBitVec.toNat) h
    unfold rw at this
    rwa [wb_tn (by omega), wb_tn (by omega)] at this
  funext i
  by_cases hi : i < 12
  · exact enc_inj hf.lt16 hg.lt16 h3 i hi
  · rw [hf.2.2 i (by omega), hg.2.2 i (by omega)]
theorem rw_ne0 {f : Nat → Nat} (hf : Pm f) : rw f ≠ 0 := by
  intro h
  have h1 := enc_64 hf.lt16
  have h3 : enc f 12 = 0 := by
    have := congrArg (fun x : Int64 => x.toBitVec.toNat) h
    unfold rw at this
    rwa [wb_tn (by omega)] at this
  have a0 := enc_nib hf.lt16 (show 0 < 12 by decide)
  have a1 := enc_nib hf.lt16 (show 1 < 12 by decide)
  rw [h3] at a0 a1
  simp at a0 a1
  have := hf.2.1 0 1 (by decide) (by decide) (by rw [← a0, ← a1])
  omega
theorem rw_id : (205163983024656 : Int64) = rw idp := by decide
