/-! what rows make: products, and what a chain can take apart -/
def Fx (k : Nat) (f : Nat → Nat) : Prop := Pm f ∧ ∀ j, j < k → f j = j
theorem Fx.id (k : Nat) : Fx k idp := ⟨Pm.id, fun _ _ => rfl⟩
theorem Fx.cmp {k : Nat} {f g : Nat → Nat} (hf : Fx k f) (hg : Fx k g) : Fx k (cmp f g) := ⟨hf.1.cmp hg.1, fun j hj => by
  show g (f j) = j
  rw [hf.2 j hj, hg.2 j hj]⟩
theorem Fx.iv {k : Nat} {f : Nat → Nat} (hf : Fx k f) : Fx k (iv f) := ⟨hf.1.iv, fun j hj => by
  have := hf.1.iv_l j
  rwa [hf.2 j hj] at this⟩
theorem Fx.mono {k j : Nat} {f : Nat → Nat} (h : Fx k f) (hj : j ≤ k) : Fx j f := ⟨h.1, fun i hi => h.2 i (by omega)⟩
theorem Fx.twelve {f : Nat → Nat} (h : Fx 12 f) : f = idp := funext fun i => by
  by_cases hi : i < 12
  · exact h.2 i hi
  · exact h.1.2.2 i (by omega)
theorem Fx.ge {k : Nat} {f : Nat → Nat} (h : Fx k f) {i : Nat} (hi : k ≤ i) : k ≤ f i := by
  rcases Nat.lt_or_ge (f i) k with q | q
  · have := h.1.inj (h.2 _ q)
    omega
  · exact q
def prd : List (Nat → Nat) → (Nat → Nat)
  | [] => idp
  | x :: l => cmp x (prd l)
theorem prd_app (a b : List (Nat → Nat)) : prd (a ++ b) = cmp (prd a) (prd b) := by
  induction a with
  | nil => rfl
  | cons x a ih =>
    show cmp x (prd (a ++ b)) = cmp (cmp x (prd a)) (prd b)
    rw [ih]
    rfl
def Gen (S : List (Nat → Nat)) (f : Nat → Nat) : Prop := ∃ l : List (Nat → Nat), (∀ x ∈ l, x ∈ S) ∧ f = prd l
theorem Gen.id (S : List (Nat → Nat)) : Gen S idp := ⟨[], (fun _ h => nomatch h), rfl⟩
theorem Gen.of {S : List (Nat → Nat)} {x : Nat → Nat} (h : x ∈ S) : Gen S x := ⟨[x], fun y hy => by
  rw [List.mem_singleton.mp hy]; exact h, rfl⟩
theorem Gen.mul {S : List (Nat → Nat)} {f g : Nat → Nat} (hf : Gen S f) (hg : Gen S g) : Gen S (cmp f g) := by
  obtain ⟨a, ha, rfl⟩ := hf
  obtain ⟨b, hb, rfl⟩ := hg
  exact ⟨a ++ b, fun x hx => (List.mem_append.mp hx).elim (ha x) (hb x), (prd_app a b).symm⟩
theorem Gen.mono {S S' : List (Nat → Nat)} {f : Nat → Nat} (hf : Gen S f) (h : ∀ x ∈ S, x ∈ S') : Gen S' f := by
  obtain ⟨a, ha, rfl⟩ := hf
  exact ⟨a, fun x hx => h x (ha x hx), rfl⟩
/-- what is closed under products holds of all that is made -/
theorem Gen.ind {S : List (Nat → Nat)} {P : (Nat → Nat) → Prop} (h0 : P idp) (hm : ∀ f g, P f → P g → P (cmp f g)) (hs : ∀ x ∈ S, P x) {f : Nat → Nat} (hf : Gen S f) : P f := by
  obtain ⟨a, ha, rfl⟩ := hf
  induction a with
  | nil => exact h0
  | cons x a ih => exact hm _ _ (hs x (ha x List.mem_cons_self)) (ih (fun y hy => ha y (List.mem_cons_of_mem _ hy)))
theorem Gen.fx {S : List (Nat → Nat)} {k : Nat} (hS : ∀ x ∈ S, Fx k x) {f : Nat → Nat} (hf : Gen S f) : Fx k f := Gen.ind (Fx.id k) (fun _ _ => Fx.cmp) hS hf
def pw (f : Nat → Nat) : Nat → (Nat → Nat)
  | 0 => idp
  | n + 1 => cmp f (pw f n)
theorem pw_add (f : Nat → Nat) (a b : Nat) : pw f (a + b) = cmp (pw f a) (pw f b) := by
  induction a with
  | zero => rw [Nat.zero_add]; rfl
  | succ a ih =>
    rw [show a + 1 + b = a + b + 1 by omega]
    show cmp f (pw f (a + b)) = cmp (cmp f (pw f a)) (pw f b)
    rw [ih]
    rfl
theorem pw_pm {f : Nat → Nat} (h : Pm f) (n : Nat) : Pm (pw f n) := by
  induction n with
  | zero => exact Pm.id
  | succ n ih => exact h.cmp ih
theorem pw_pt {f : Nat → Nat} (h : Pm f) {x : Nat} (hx : x < 12) : ∃ a, 1 ≤ a ∧ a ≤ 12 ∧ pw f a x = x := by
  obtain ⟨i, j, hij, hj, e⟩ := fb_twice (m := 12) (n := 13) (f := fun i => pw f i x) (fun i _ => (pw_pm h i).1 x hx) (by decide)
  refine ⟨j - i, by omega, by omega, ?_⟩
  have e1 : pw f j = cmp (pw f (j - i)) (pw f i) := by rw [← pw_add]; congr 1; omega
  have e2 : pw f i (pw f (j - i) x) = pw f i x := by
    have : pw f j x = pw f i (pw f (j - i) x) := by rw [e1]; rfl
    rw [← this]
    exact e.symm
  exact (pw_pm h i).inj e2
theorem pw_mul {f : Nat → Nat} {a x : Nat} (h : pw f a x = x) (m : Nat) : pw f (a * m) x = x := by
  induction m with
  | zero => rfl
  | succ m ih =>
    rw [Nat.mul_succ, pw_add]
    show pw f a (pw f (a * m) x) = x
    rw [ih, h]
theorem pw_all {f : Nat → Nat} (h : Pm f) : pw f 27720 = idp := funext fun x => by
  by_cases hx : x < 12
  · obtain ⟨a, h1, h2, h3⟩ := pw_pt h hx
    have key : ∀ a, 1 ≤ a → a ≤ 12 → a * (27720 / a) = 27720 := by
      intro a h1 h2
      have : a = 1 ∨ a = 2 ∨ a = 3 ∨ a = 4 ∨ a = 5 ∨ a = 6 ∨ a = 7 ∨ a = 8 ∨ a = 9 ∨ a = 10 ∨ a = 11 ∨ a = 12 := by omega
      rcases this with rfl | rfl | rfl | rfl | rfl | rfl | rfl | rfl | rfl | rfl | rfl | rfl <;> rfl
    rw [← key a h1 h2]
    exact pw_mul h3 _
  · exact (pw_pm h _).2.2 x (by omega)
theorem iv_pw {f : Nat → Nat} (h : Pm f) : ∃ n, iv f = pw f n := by
  obtain ⟨n, hn⟩ : ∃ n, 27720 = n + 1 := ⟨27719, rfl⟩
  have e := pw_all h
  rw [hn] at e
  exact ⟨n, (iv_uniq h (fun i => congrFun e i)).symm⟩
theorem Gen.pw {S : List (Nat → Nat)} {f : Nat → Nat} (hf : Gen S f) (n : Nat) : Gen S (pw f n) := by
  induction n with
  | zero => exact Gen.id S
  | succ n ih => exact hf.mul ih
theorem Gen.iv {S : List (Nat → Nat)} {f : Nat → Nat} (hp : Pm f) (hf : Gen S f) : Gen S (iv f) := by
  obtain ⟨n, e⟩ := iv_pw hp
  rw [e]
  exact hf.pw _
/-- from level k on the chain can take f apart -/
def H (s : CS) (k : Nat) (f : Nat → Nat) : Prop := hs s (12 - k) k f = true
theorem H_12 (s : CS) (f : Nat → Nat) : H s 12 f := rfl
theorem H_lt {s : CS} {k : Nat} (hk : k < 12) (f : Nat → Nat) : H s k f ↔ f k ∈ cO s k ∧ H s (k + 1) (cmp f (iv (cT s k (f k)))) := by
  unfold H
  rw [show 12 - k = 12 - (k + 1) + 1 by omega]
  simp [hs]
theorem H_split {s : CS} (hcw : CW s) {k : Nat} (hk : k < 12) {f : Nat → Nat} (hf : Fx k f) : H s k f ↔ ∃ p ∈ cO s k, ∃ g, Fx (k + 1) g ∧ H s (k + 1) g ∧ f = cmp g (cT s k p) := by
  rw [H_lt hk]
  constructor
  · rintro ⟨h1, h2⟩
    have hT := (hcw k hk).2.2.2.1 _ h1
    have hTf : Fx k (cT s k (f k)) := ⟨hT.2.1, hT.2.2.2⟩
    refine ⟨f k, h1, cmp f (iv (cT s k (f k))), ⟨hf.1.cmp hT.2.1.iv, fun j hj => ?_⟩, h2, ?_⟩
    · by_cases e : j = k
      · subst e
        show iv (cT s j (f j)) (f j) = j
        have := hT.2.1.iv_l j
        rwa [hT.2.2.1] at this
      · exact (hf.cmp hTf.iv).2 j (by omega)
    · show f = cmp (cmp f (iv (cT s k (f k)))) (cT s k (f k))
      rw [cmp_assoc, iv_cmp hT.2.1, cmp_id]
  · rintro ⟨p, hp, g, hg, h2, rfl⟩
    have hT := (hcw k hk).2.2.2.1 _ hp
    have e : cmp g (cT s k p) k = p := by
      show cT s k p (g k) = p
      rw [hg.2 k (by omega), hT.2.2.1]
    rw [e]
    refine ⟨hp, ?_⟩
    rw [cmp_assoc, cmp_iv hT.2.1, cmp_id]
    exact h2
theorem H_id {s : CS} (hcw : CW s) : ∀ n k, k + n = 12 → H s k idp
  | 0, k, h => by
    have : k = 12 := by omega
    subst this
    exact H_12 s idp
  | n + 1, k, h => by
    have hk : k < 12 := by omega
    rw [H_lt hk]
    refine ⟨(hcw k hk).2.1, ?_⟩
    have e : cT s k (idp k) = idp := (hcw k hk).2.2.1
    rw [e, iv_id]
    exact H_id hcw n (k + 1) (by omega)
/-- complete from level k on -/
def CC (s : CS) (k : Nat) : Prop := ∀ j, k ≤ j → j < 12 → ∀ f, Fx j f → (H s j f ↔ Gen (cM s j) f)
theorem CC.mul {s : CS} {k : Nat} (h : CC s k) (hk : k ≤ 12) {f g : Nat → Nat} (hf : Fx k f) (hg : Fx k g) (h1 : H s k f) (h2 : H s k g) : H s k (cmp f g) := by
  rcases Nat.lt_or_ge k 12 with q | q
  · rw [h k (Nat.le_refl _) q _ hf] at h1
    rw [h k (Nat.le_refl _) q _ hg] at h2
    rw [h k (Nat.le_refl _) q _ (hf.cmp hg)]
    exact h1.mul h2
  · have : k = 12 := by omega
    subst this
    exact H_12 s _
theorem CC.inv {s : CS} {k : Nat} (h : CC s k) (hk : k ≤ 12) {f : Nat → Nat} (hf : Fx k f) (h1 : H s k f) : H s k (iv f) := by
  rcases Nat.lt_or_ge k 12 with q | q
  · rw [h k (Nat.le_refl _) q _ hf] at h1
    rw [h k (Nat.le_refl _) q _ hf.iv]
    exact h1.iv hf.1
  · have : k = 12 := by omega
    subst this
    exact H_12 s _
theorem CC.up {s : CS} {k j : Nat} (h : CC s k) (hj : k ≤ j) : CC s j := fun i hi => h i (by omega)
theorem CC.step {s : CS} {k : Nat} (h : CC s (k + 1)) (h1 : k < 12 → ∀ f, Fx k f → (H s k f ↔ Gen (cM s k) f)) : CC s k := fun j hj hj2 => by
  by_cases e : j = k
  · subst e
    exact h1 hj2
  · exact h j (by omega) hj2
theorem close {s : CS} (hcw : CW s) {k : Nat} (hk : k < 12) (hcc : CC s (k + 1)) (h1 : ∀ p ∈ cO s k, ∀ m ∈ cM s k, H s k (cmp (cT s k p) m)) (h2 : ∀ p ∈ cO s k, Gen (cM s k) (cT s k p)) (h3 : ∀ g, Fx (k + 1) g → H s (k + 1) g → Gen (cM s k) g) :
    ∀ f, Fx k f → (H s k f ↔ Gen (cM s k) f) := by
  have hMfx : ∀ x ∈ cM s k, Fx k x := (hcw k hk).2.2.2.2
  have stepm : ∀ f, Fx k f → H s k f → ∀ m ∈ cM s k, H s k (cmp f m) := by
    intro f hf hH m hm
    obtain ⟨p, hp, g, hg, hg2, rfl⟩ := (H_split hcw hk hf).mp hH
    have hT := (hcw k hk).2.2.2.1 _ hp
    have hTf : Fx k (cT s k p) := ⟨hT.2.1, hT.2.2.2⟩
    obtain ⟨q, hq, g', hg', hg2', e⟩ := (H_split hcw hk (hTf.cmp (hMfx m hm))).mp (h1 p hp m hm)
    refine (H_split hcw hk (hf.cmp (hMfx m hm))).mpr ⟨q, hq, cmp g g', hg.cmp hg', hcc.mul (by omega) hg hg' hg2 hg2', ?_⟩
    rw [cmp_assoc, e]
    rfl
  intro f hf
  constructor
  · intro hH
    obtain ⟨p, hp, g, hg, hg2, rfl⟩ := (H_split hcw hk hf).mp hH
    exact (h3 g hg hg2).mul (h2 p hp)
  · rintro ⟨a, ha, rfl⟩
    have key : ∀ (a : List (Nat → Nat)), (∀ x ∈ a, x ∈ cM s k) → ∀ f, Fx k f → H s k f → H s k (cmp f (prd a)) := by
      intro a
      induction a with
      | nil => exact fun _ f _ h => h
      | cons x a ih =>
        intro ha f hf h
        have := ih (fun y hy => ha y (List.mem_cons_of_mem _ hy)) (cmp f x) (hf.cmp (hMfx x (ha x List.mem_cons_self))) (stepm f hf h x (ha x List.mem_cons_self))
        exact this
    exact key a ha idp (Fx.id k) (H_id hcw (12 - k) k (by omega))
/-- a chain that has all that another has -/
def Ext (s s' : CS) : Prop := ∀ j, j < 12 → ∀ p ∈ cO s j, p ∈ cO s' j ∧ cT s' j p = cT s j p
theorem Ext.rf {s : CS} : Ext s s := fun _ _ _ h => ⟨h, rfl⟩
theorem Ext.tr {s s' s2 : CS} (h : Ext s s') (h' : Ext s' s2) : Ext s s2 := fun j hj p hp => ⟨(h' j hj p (h j hj p hp).1).1, (h' j hj p (h j hj p hp).1).2.trans (h j hj p hp).2⟩
theorem Ext.H {s s' : CS} (h : Ext s s') : ∀ n k, k + n = 12 → ∀ f, H s k f → H s' k f
  | 0, k, hk, f, _ => by
    have : k = 12 := by omega
    subst this
    exact H_12 s' f
  | n + 1, k, hk, f, hf => by
    have hk : k < 12 := by omega
    rw [H_lt hk] at hf ⊢
    obtain ⟨a, b⟩ := h k hk _ hf.1
    refine ⟨a, ?_⟩
    rw [b]
    exact Ext.H h n (k + 1) (by omega) _ hf.2
