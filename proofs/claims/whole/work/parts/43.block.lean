/-! which stickers stay together: orbits as bits, the least congruence -/
def OJ (ts : List (Nat → Nat)) (j p : Nat) : Prop := ∃ f, Gen ts f ∧ f j = p
theorem OJ.rf (ts : List (Nat → Nat)) (j : Nat) : OJ ts j j := ⟨idp, Gen.id _, rfl⟩
theorem OJ.step {ts : List (Nat → Nat)} {j p : Nat} {t : Nat → Nat} (h : OJ ts j p) (ht : t ∈ ts) : OJ ts j (t p) := by
  obtain ⟨f, a, rfl⟩ := h
  exact ⟨cmp f t, a.mul (Gen.of ht), rfl⟩
theorem OJ.of {ts : List (Nat → Nat)} {k j p : Nat} (hc : ∀ t ∈ ts, ∀ p, k.testBit p = true → k.testBit (t p) = true) (hj : k.testBit j = true) (h : OJ ts j p) : k.testBit p = true := by
  obtain ⟨f, a, rfl⟩ := h
  exact Gen.ind (P := fun f => ∀ p, k.testBit p = true → k.testBit (f p) = true) (fun p hp => hp) (fun f g hf hg p hp => hg _ (hf p hp)) hc a j hj
theorem cntP_lt {α : Type} {p q : α → Bool} : ∀ {r : List α}, (∀ x ∈ r, p x = true → q x = true) → (∃ x ∈ r, q x = true ∧ p x = false) → r.countP p < r.countP q
  | [], _, h => by
    obtain ⟨x, hx, -⟩ := h
    cases hx
  | a :: r, h, ⟨x, hx, h1, h2⟩ => by
    rw [List.countP_cons, List.countP_cons]
    have hle : r.countP p ≤ r.countP q := List.countP_mono_left (fun y hy => h y (List.mem_cons_of_mem _ hy))
    rcases List.mem_cons.mp hx with rfl | hx
    · rw [if_pos h1, if_neg (by rw [h2]; decide)]
      omega
    · have ih := cntP_lt (fun y hy => h y (List.mem_cons_of_mem _ hy)) ⟨x, hx, h1, h2⟩
      by_cases z : p a = true
      · rw [if_pos z, if_pos (h a List.mem_cons_self z)]
        omega
      · rw [if_neg z]
        omega
def bc (k : Nat) : Nat := (List.range 12).countP (fun p => k.testBit p)
theorem bc_le {k n : Nat} (h : ∀ p, k.testBit p = true → p < n) : bc k ≤ n := by
  unfold bc
  rw [List.countP_eq_length_filter]
  have := sub_len ((List.range 12).filter (fun p => k.testBit p)) (List.range n) (List.Nodup.sublist List.filter_sublist List.nodup_range) (fun x hx => List.mem_range.mpr (h x (List.mem_filter.mp hx).2))
  rwa [List.length_range] at this
theorem bc_lt {k k' : Nat} (h : ∀ p, k.testBit p = true → k'.testBit p = true) (hk : ∀ p, k'.testBit p = true → p < 12) (hne : k' ≠ k) : bc k < bc k' := by
  unfold bc
  refine cntP_lt (fun x _ => h x) ?_
  by_cases z : ∃ x ∈ List.range 12, k'.testBit x = true ∧ k.testBit x = false
  · exact z
  · refine (hne (Nat.eq_of_testBit_eq fun p => ?_)).elim
    rw [Bool.eq_iff_iff]
    refine ⟨fun hp => ?_, h p⟩
    by_cases q : k.testBit p = true
    · exact q
    · exact (z ⟨p, List.mem_range.mpr (hk p hp), hp, by simpa using q⟩).elim
theorem tb_lt {k : Nat} (h : k < 2 ^ 12) {p : Nat} (hp : k.testBit p = true) : p < 12 := by
  by_cases z : p < 12
  · exact z
  · have : 2 ^ 12 ≤ 2 ^ p := Nat.pow_le_pow_right (by decide) (by omega)
    rw [Nat.testBit_lt_two_pow (by omega)] at hp
    cases hp
theorem tb_or {k q p : Nat} : (k ||| 2 ^ q).testBit p = true ↔ k.testBit p = true ∨ p = q := by
  rw [Nat.testBit_or, Nat.testBit_two_pow, Bool.or_eq_true, decide_eq_true_iff]
  constructor <;> rintro (h | h)
  · exact Or.inl h
  · exact Or.inr h.symm
  · exact Or.inl h
  · exact Or.inr h.symm
def tzn (k : Nat) : Nat := ((List.range 12).find? (fun p => k.testBit p)).getD 0
theorem tzn_spec {k j : Nat} (hj : j < 12) (h : k.testBit j = true) : tzn k < 12 ∧ k.testBit (tzn k) = true ∧ ∀ p, k.testBit p = true → tzn k ≤ p := by
  unfold tzn
  cases hf : (List.range 12).find? (fun p => k.testBit p) with
  | none =>
    have := List.find?_eq_none.mp hf j (List.mem_range.mpr hj)
    exact absurd h this
  | some z =>
    have h1 := List.find?_some hf
    have h2 := List.mem_of_find?_eq_some hf
    refine ⟨List.mem_range.mp h2, h1, fun p hp => ?_⟩
    by_cases e : z ≤ p
    · exact e
    · have hz := List.mem_range.mp h2
      rw [List.find?_range_eq_some] at hf
      have := hf.2.2 p (by omega)
      simp only [Bool.not_eq_true'] at this
      rw [hp] at this
      cases this
/-- the least congruence that has a and b together -/
def Cg (ts : List (Nat → Nat)) (a b x y : Nat) : Prop := ∀ R : Nat → Nat → Prop, (∀ x, R x x) → (∀ x y, R x y → R y x) → (∀ x y z, R x y → R y z → R x z) → R a b → (∀ t ∈ ts, ∀ x y, R x y → R (t x) (t y)) → R x y
section
variable {ts : List (Nat → Nat)} {a b : Nat}
theorem Cg.rf (x : Nat) : Cg ts a b x x := fun _ h _ _ _ _ => h x
theorem Cg.sy {x y : Nat} (h : Cg ts a b x y) : Cg ts a b y x := fun R h1 h2 h3 h4 h5 => h2 _ _ (h R h1 h2 h3 h4 h5)
theorem Cg.tr {x y z : Nat} (h : Cg ts a b x y) (h' : Cg ts a b y z) : Cg ts a b x z := fun R h1 h2 h3 h4 h5 => h3 _ _ _ (h R h1 h2 h3 h4 h5) (h' R h1 h2 h3 h4 h5)
theorem Cg.ba : Cg ts a b a b := fun _ _ _ _ h _ => h
theorem Cg.go {x y : Nat} {t : Nat → Nat} (ht : t ∈ ts) (h : Cg ts a b x y) : Cg ts a b (t x) (t y) := fun R h1 h2 h3 h4 h5 => h5 t ht _ _ (h R h1 h2 h3 h4 h5)
end
def uni (g : Nat → Nat) (x y : Nat) : Nat → Nat := fun p => if g p = max (g x) (g y) then min (g x) (g y) else g p
def BI (n : Nat) (ts : List (Nat → Nat)) (a b : Nat) (g : Nat → Nat) : Prop := (∀ p, p < 12 → g p ≤ p ∧ g (g p) = g p) ∧ (∀ p, n ≤ p → p < 12 → g p = p) ∧ ∀ p, p < 12 → Cg ts a b p (g p)
theorem BI.id (n : Nat) (ts : List (Nat → Nat)) (a b : Nat) : BI n ts a b idp := ⟨fun _ _ => ⟨Nat.le_refl _, rfl⟩, fun _ _ _ => rfl, fun p _ => Cg.rf p⟩
theorem uni_same {g : Nat → Nat} {x y : Nat} (h : g x = g y) : uni g x y = g := by
  funext p
  unfold uni
  rw [h, Nat.max_self, Nat.min_self]
  split
  · rename_i e; exact e.symm
  · rfl
theorem uni_keep {g : Nat → Nat} {x y p q : Nat} (h : g p = g q) : uni g x y p = uni g x y q := by
  unfold uni
  rw [h]
theorem uni_tog {g : Nat → Nat} {x y : Nat} : uni g x y x = uni g x y y := by
  unfold uni
  rcases Nat.le_total (g x) (g y) with z | z
  · rw [Nat.max_eq_right z, Nat.min_eq_left z, if_pos rfl]
    split <;> rfl
  · rw [Nat.max_eq_left z, Nat.min_eq_right z, if_pos rfl]
    split <;> rfl
theorem uni_def (g : Nat → Nat) (x y p : Nat) : uni g x y p = if g p = max (g x) (g y) then min (g x) (g y) else g p := rfl
theorem BI.un {n : Nat} {ts : List (Nat → Nat)} {a b x y : Nat} {g : Nat → Nat} (h : BI n ts a b g) (hx : x < n) (hy : y < n) (hn : n ≤ 12) (hc : Cg ts a b x y) : BI n ts a b (uni g x y) := by
  obtain ⟨h1, h2, h3⟩ := h
  have gx := h1 x (by omega)
  have gy := h1 y (by omega)
  have hgm : g (min (g x) (g y)) = min (g x) (g y) := by
    rcases Nat.le_total (g x) (g y) with z | z
    · rw [Nat.min_eq_left z]; exact gx.2
    · rw [Nat.min_eq_right z]; exact gy.2
  have hcg : Cg ts a b (g x) (g y) := (h3 x (by omega)).sy.tr (hc.tr (h3 y (by omega)))
  have hcm : Cg ts a b (max (g x) (g y)) (min (g x) (g y)) := by
    rcases Nat.le_total (g x) (g y) with z | z
    · rw [Nat.min_eq_left z, Nat.max_eq_right z]; exact hcg.sy
    · rw [Nat.min_eq_right z, Nat.max_eq_left z]; exact hcg
  refine ⟨fun p hp => ?_, fun p hp hp2 => ?_, fun p hp => ?_⟩
  · have gp := h1 p hp
    by_cases e : g p = max (g x) (g y)
    · have eu : uni g x y p = min (g x) (g y) := by rw [uni_def, if_pos e]
      rw [eu]
      refine ⟨by omega, ?_⟩
      rw [uni_def, hgm]
      split <;> rfl
    · have eu : uni g x y p = g p := by rw [uni_def, if_neg e]
      rw [eu]
      refine ⟨gp.1, ?_⟩
      rw [uni_def, gp.2, if_neg e]
  · rw [uni_def, if_neg (by rw [h2 p hp hp2]; omega)]
    exact h2 p hp hp2
  · rw [uni_def]
    split
    · rename_i e
      have := h3 p hp
      rw [e] at this
      exact this.tr hcm
    · exact h3 p hp
def ncl (g : Nat → Nat) : Nat := (List.range 12).countP (fun p => g p == p)
theorem ncl_lt {n : Nat} {ts : List (Nat → Nat)} {a b x y : Nat} {g : Nat → Nat} (h : BI n ts a b g) (hx : x < 12) (hy : y < 12) (hne : g x ≠ g y) : ncl (uni g x y) < ncl g := by
  obtain ⟨h1, h2, h3⟩ := h
  have gx := h1 x hx
  have gy := h1 y hy
  have hgm : g (min (g x) (g y)) = min (g x) (g y) := by
    rcases Nat.le_total (g x) (g y) with z | z
    · rw [Nat.min_eq_left z]; exact gx.2
    · rw [Nat.min_eq_right z]; exact gy.2
  have hgM : g (max (g x) (g y)) = max (g x) (g y) := by
    rcases Nat.le_total (g x) (g y) with z | z
    · rw [Nat.max_eq_right z]; exact gy.2
    · rw [Nat.max_eq_left z]; exact gx.2
  unfold ncl
  refine cntP_lt (fun p _ hp => ?_) ⟨max (g x) (g y), List.mem_range.mpr (by omega), ?_, ?_⟩
  · rw [beq_iff_eq] at hp ⊢
    rw [uni_def] at hp
    split at hp
    · rw [← hp]; exact hgm
    · exact hp
  · rw [beq_iff_eq]; exact hgM
  · rw [beq_eq_false_iff_ne, uni_def, if_pos hgM]
    omega
theorem ncl_pos {n : Nat} {ts : List (Nat → Nat)} {a b : Nat} {g : Nat → Nat} (h : BI n ts a b g) : 1 ≤ ncl g := by
  unfold ncl
  refine List.countP_pos_iff.mpr ⟨0, by decide, ?_⟩
  have := (h.1 0 (by decide)).1
  rw [beq_iff_eq]
  omega
theorem ncl_id : ncl idp = 12 := by decide
/-- the classes stand -/
def BE (n : Nat) (ts : List (Nat → Nat)) (a b : Nat) (g : Nat → Nat) : Prop := BI n ts a b g ∧ g a = g b ∧ ∀ t ∈ ts, ∀ p, p < n → g (t p) = g (t (g p))
theorem BE.least {n : Nat} {ts : List (Nat → Nat)} {a b : Nat} {g : Nat → Nat} (h : BE n ts a b g) (hn : n ≤ 12) (ha : a < n) (hb : b < n) (ht : ∀ t ∈ ts, Lw n t) {s : Nat} (hs : s < 12) : Cg ts a b s (g s) ∧ ∀ y, Cg ts a b s y → g s ≤ y := by
  obtain ⟨⟨h1, h2, h3⟩, h4, h5⟩ := h
  refine ⟨h3 s hs, fun y hy => ?_⟩
  have key : ∀ t ∈ ts, ∀ x, (if t x < 12 then g (t x) else t x) = (if t (if x < 12 then g x else x) < 12 then g (t (if x < 12 then g x else x)) else t (if x < 12 then g x else x)) := by
    intro t hT x
    have hL := ht t hT
    by_cases hx : x < 12
    · simp only [if_pos hx]
      by_cases hxn : x < n
      · have a1 := hL.1.1 x hx
        have a2 := hL.1.1 (g x) (by have := (h1 x hx).1; omega)
        rw [if_pos a1, if_pos a2]
        exact h5 t hT x hxn
      · rw [h2 x (by omega) hx]
    · simp only [if_neg hx]
  have hR := hy (fun x y => (if x < 12 then g x else x) = (if y < 12 then g y else y)) (fun _ => rfl) (fun _ _ e => e.symm) (fun _ _ _ e e' => e.trans e') (by rw [if_pos (by omega), if_pos (by omega)]; exact h4) (fun t hT x y e => by
    have k1 := key t hT x
    have k2 := key t hT y
    rw [k1, e, ← k2])
  rw [if_pos hs] at hR
  split at hR
  · rename_i hy2
    rw [hR]
    exact (h1 y hy2).1
  · omega
def BlkV (ts : List (Nat → Nat)) (j s : Nat) (r : Int32) : Prop := (¬ OJ ts j s ∧ r = -1) ∨ (OJ ts j s ∧ ∃ b v, (OJ ts j b ∧ ∀ p, OJ ts j p → b ≤ p) ∧ (Cg ts j b s v ∧ ∀ y, Cg ts j b s y → v ≤ y) ∧ r = nI v)
theorem BlkV.uniq {ts : List (Nat → Nat)} {j s : Nat} {r r' : Int32} (h : BlkV ts j s r) (h' : BlkV ts j s r') : r = r' := by
  rcases h with ⟨a, rfl⟩ | ⟨a, b, v, ⟨b1, b2⟩, ⟨c1, c2⟩, rfl⟩
  · rcases h' with ⟨a', rfl⟩ | ⟨a', -⟩
    · rfl
    · exact (a a').elim
  · rcases h' with ⟨a', rfl⟩ | ⟨a', b', v', ⟨d1, d2⟩, ⟨e1, e2⟩, rfl⟩
    · exact (a' a).elim
    · have eb : b = b' := Nat.le_antisymm (b2 _ d1) (d2 _ b1)
      subst eb
      rw [Nat.le_antisymm (c2 _ e1) (e2 _ c1)]
