/-! what every complete chain of one group says alike: orbits, orders, ranks -/
noncomputable def cd (p : Prop) : Bool := @decide p (Classical.propDecidable p)
theorem cd_t {p : Prop} : cd p = true ↔ p := by
  unfold cd
  exact @decide_eq_true_iff p (Classical.propDecidable p)
theorem cd_f {p : Prop} : cd p = false ↔ ¬ p := by
  unfold cd
  exact @decide_eq_false_iff_not p (Classical.propDecidable p)
theorem cnt_eq {α : Type} {A B : List α} (p : α → Bool) (hA : A.Nodup) (hB : B.Nodup) (h : ∀ x, x ∈ A ↔ x ∈ B) : A.countP p = B.countP p := by
  rw [List.countP_eq_length_filter, List.countP_eq_length_filter]
  refine Nat.le_antisymm (sub_len _ _ (List.Nodup.sublist List.filter_sublist hA) (fun x hx => ?_)) (sub_len _ _ (List.Nodup.sublist List.filter_sublist hB) (fun x hx => ?_))
  · rw [List.mem_filter] at hx ⊢
    exact ⟨(h x).mp hx.1, hx.2⟩
  · rw [List.mem_filter] at hx ⊢
    exact ⟨(h x).mpr hx.1, hx.2⟩
theorem len_eq {α : Type} {A B : List α} (hA : A.Nodup) (hB : B.Nodup) (h : ∀ x, x ∈ A ↔ x ∈ B) : A.length = B.length :=
  Nat.le_antisymm (sub_len _ _ hA (fun x hx => (h x).mp hx)) (sub_len _ _ hB (fun x hx => (h x).mpr hx))
def CP (s : CS) (P : (Nat → Nat) → Prop) : Prop := CW s ∧ ∀ k, k ≤ 12 → ∀ f, Fx k f → (H s k f ↔ P f)
def Gr (P : (Nat → Nat) → Prop) : Prop := P idp ∧ (∀ f g, P f → P g → P (cmp f g)) ∧ (∀ f, P f → P (iv f)) ∧ ∀ f, P f → Pm f
theorem Gr.gen {S : List (Nat → Nat)} (h : ∀ x ∈ S, Pm x) : Gr (Gen S) := by
  have hp : ∀ f, Gen S f → Pm f := fun f hf => (Gen.fx (k := 0) (fun x hx => ⟨h x hx, fun j hj => by omega⟩) hf).1
  exact ⟨Gen.id S, fun _ _ => Gen.mul, fun f hf => Gen.iv (hp f hf) hf, hp⟩
theorem H_dn {s : CS} (hcw : CW s) {k : Nat} (hk : k < 12) {f : Nat → Nat} (hf : Fx (k + 1) f) : H s k f ↔ H s (k + 1) f := by
  rw [H_lt hk, hf.2 k (by omega), (hcw k hk).2.2.1, iv_id, cmp_id]
  exact ⟨fun z => z.2, fun z => ⟨(hcw k hk).2.1, z⟩⟩
theorem CP.of {s : CS} {P : (Nat → Nat) → Prop} (hcw : CW s) (h : ∀ f, Pm f → (H s 0 f ↔ P f)) : CP s P := by
  refine ⟨hcw, fun k => ?_⟩
  induction k with
  | zero => exact fun _ f hf => h f hf.1
  | succ k ih =>
    intro hk f hf
    rw [← H_dn hcw (by omega) hf]
    exact ih (by omega) f (hf.mono (by omega))
theorem CP.tk {s : CS} {P : (Nat → Nat) → Prop} (h : CP s P) {k p : Nat} (hk : k < 12) (hp : p ∈ cO s k) : Fx k (cT s k p) ∧ P (cT s k p) ∧ cT s k p k = p := by
  obtain ⟨a, b, c, d⟩ := (h.1 k hk).2.2.2.1 p hp
  have hf : Fx k (cT s k p) := ⟨b, d⟩
  exact ⟨hf, (h.2 k (by omega) _ hf).mp ((H_split h.1 hk hf).mpr ⟨p, hp, idp, Fx.id _, H_id h.1 (12 - (k + 1)) (k + 1) (by omega), rfl⟩), c⟩
def Orb (P : (Nat → Nat) → Prop) (k p : Nat) : Prop := ∃ h, P h ∧ Fx k h ∧ h k = p
theorem CP.orb {s : CS} {P : (Nat → Nat) → Prop} (h : CP s P) {k p : Nat} (hk : k < 12) : p ∈ cO s k ↔ Orb P k p := by
  constructor
  · intro hp
    obtain ⟨a, b, c⟩ := h.tk hk hp
    exact ⟨_, b, a, c⟩
  · rintro ⟨f, a, b, rfl⟩
    exact ((H_lt hk f).mp ((h.2 k (by omega) f b).mpr a)).1
theorem Orb.lt {P : (Nat → Nat) → Prop} {k p : Nat} (hk : k < 12) (h : Orb P k p) : p < 12 := by
  obtain ⟨f, -, b, rfl⟩ := h
  exact b.1.1 k hk
theorem Orb.step {P : (Nat → Nat) → Prop} (G : Gr P) {k p : Nat} {rs : Nat → Nat} (h : Orb P k p) (hr : P rs) (hf : Fx k rs) : Orb P k (rs p) := by
  obtain ⟨f, a, b, rfl⟩ := h
  exact ⟨cmp f rs, G.2.1 _ _ a hr, b.cmp hf, rfl⟩
noncomputable def oz (P : (Nat → Nat) → Prop) (k : Nat) : Nat := (List.range 12).countP (fun p => cd (Orb P k p))
noncomputable def lsr (P : (Nat → Nat) → Prop) (f : Nat → Nat) (k : Nat) : Nat := (List.range 12).countP (fun p => decide (f p < f k) && cd (Orb P k p))
noncomputable def ord (P : (Nat → Nat) → Prop) : Nat → Nat → Nat
  | 0, _ => 1
  | n + 1, k => oz P k * ord P n (k + 1)
noncomputable def rnk (P : (Nat → Nat) → Prop) (f : Nat → Nat) : Nat → Nat → Nat
  | 0, _ => 0
  | n + 1, k => lsr P f k * ord P n (k + 1) + rnk P f n (k + 1)
theorem CP.z_oz {s : CS} {P : (Nat → Nat) → Prop} (h : CP s P) {k : Nat} (hk : k < 12) : (cO s k).length = oz P k := by
  unfold oz
  rw [List.countP_eq_length_filter]
  refine len_eq (h.1 k hk).1 (List.Nodup.sublist List.filter_sublist List.nodup_range) (fun x => ?_)
  rw [List.mem_filter, cd_t, h.orb hk, List.mem_range]
  exact ⟨fun z => ⟨z.lt hk, z⟩, fun z => z.2⟩
theorem CP.lsr0 {s : CS} {P : (Nat → Nat) → Prop} (h : CP s P) {k : Nat} (hk : k < 12) (f : Nat → Nat) : cls (cO s k) f (f k) = lsr P f k := by
  unfold lsr cls
  rw [← List.countP_filter]
  refine cnt_eq _ (h.1 k hk).1 (List.Nodup.sublist List.filter_sublist List.nodup_range) (fun x => ?_)
  rw [List.mem_filter, cd_t, h.orb hk, List.mem_range]
  exact ⟨fun z => ⟨z.lt hk, z⟩, fun z => z.2⟩
theorem cls_rs {A : List Nat} {rs g : Nat → Nat} (hA : A.Nodup) (hin : ∀ p ∈ A, rs p ∈ A) (hinj : ∀ p q, rs p = rs q → p = q) (x : Nat) : cls A (cmp rs g) x = cls A g x := by
  have hnd : (A.map rs).Nodup := nodup_map (fun p _ q _ e => hinj p q e) hA
  have hsub : ∀ x ∈ A.map rs, x ∈ A := fun y hy => by
    obtain ⟨p, hp, rfl⟩ := List.mem_map.mp hy
    exact hin p hp
  have he : cls A (cmp rs g) x = (A.map rs).countP (fun p => decide (g p < x)) := by
    unfold cls
    rw [List.countP_map]
    rfl
  rw [he]
  unfold cls
  refine cnt_eq _ hnd hA (fun y => ⟨hsub y, fun hy => ?_⟩)
  by_cases z : y ∈ A.map rs
  · exact z
  · have := sub_len (y :: A.map rs) A (List.nodup_cons.mpr ⟨z, hnd⟩) (fun u hu => by
      rcases List.mem_cons.mp hu with rfl | hu
      · exact hy
      · exact hsub u hu)
    simp only [List.length_cons, List.length_map] at this
    omega
theorem CP.z_lsr {s : CS} {P : (Nat → Nat) → Prop} (h : CP s P) (G : Gr P) {k : Nat} (hk : k < 12) {f ld : Nat → Nat} (hf : P f) (hl : P ld) (ha : ∀ j, j < k → f j = ld j) : cls (cO s k) ld (f k) = lsr P f k := by
  have hlp := G.2.2.2 ld hl
  have hfp := G.2.2.2 f hf
  have hr : P (cmp f (iv ld)) := G.2.1 _ _ hf (G.2.2.1 _ hl)
  have hrf : Fx k (cmp f (iv ld)) := ⟨hfp.cmp hlp.iv, fun j hj => by
    show iv ld (f j) = j
    rw [ha j hj]
    exact hlp.iv_l j⟩
  have e : cmp (cmp f (iv ld)) ld = f := by
    rw [cmp_assoc, iv_cmp hlp, cmp_id]
  rw [← h.lsr0 hk f]
  conv => rhs; rw [show cls (cO s k) f (f k) = cls (cO s k) (cmp (cmp f (iv ld)) ld) (f k) by rw [e]]
  exact (cls_rs (h.1 k hk).1 (fun p hp => (h.orb hk).mpr (((h.orb hk).mp hp).step G hr hrf)) (fun p q z => (hfp.cmp hlp.iv).inj z) _).symm
theorem CP.z_cfr {s : CS} {P : (Nat → Nat) → Prop} (h : CP s P) : ∀ n k, k + n = 12 → cfr s n k = ord P n k
  | 0, k, _ => rfl
  | n + 1, k, hk => by
    show (cO s k).length * cfr s n (k + 1) = oz P k * ord P n (k + 1)
    rw [h.z_oz (by omega), CP.z_cfr h n (k + 1) (by omega)]
theorem CP.z_rkL {s : CS} {P : (Nat → Nat) → Prop} (h : CP s P) (G : Gr P) {f : Nat → Nat} (hf : P f) : ∀ n k acc ld rs, k + n = 12 → P ld → P rs → Fx k rs → f = cmp rs ld → rkL s f n k acc ld rs = acc * ord P n k + rnk P f n k
  | 0, k, acc, ld, rs, _, _, _, _, _ => by
    show acc = acc * 1 + 0
    omega
  | n + 1, k, acc, ld, rs, hk, hl, hr, hx, e => by
    have hkk : k < 12 := by omega
    have hmem : rs k ∈ cO s k := (h.orb hkk).mpr ⟨rs, hr, hx, rfl⟩
    obtain ⟨t1, t2, t3⟩ := h.tk hkk hmem
    show rkL s f n (k + 1) (acc * (cO s k).length + cls (cO s k) ld (f k)) (cmp (cT s k (rs k)) ld) (cmp rs (iv (cT s k (rs k)))) = acc * (oz P k * ord P n (k + 1)) + (lsr P f k * ord P n (k + 1) + rnk P f n (k + 1))
    rw [CP.z_rkL h G hf n (k + 1) _ _ _ (by omega) (G.2.1 _ _ t2 hl) (G.2.1 _ _ hr (G.2.2.1 _ t2)) (rest_fx h.1 hkk hx hmem) (by
      rw [cmp_assoc, ← cmp_assoc (iv _), iv_cmp t1.1, id_cmp]
      exact e)]
    rw [h.z_oz hkk, h.z_lsr G hkk hf hl (fun j hj => by rw [e]; show ld (rs j) = _; rw [hx.2 j hj]), Nat.add_mul, Nat.mul_assoc, Nat.add_assoc]
theorem CP.lsr_lt {s : CS} {P : (Nat → Nat) → Prop} (h : CP s P) {k : Nat} (hk : k < 12) (f : Nat → Nat) : lsr P f k < oz P k := by
  rw [← h.lsr0 hk f, ← h.z_oz hk]
  unfold cls
  have h1 := List.countP_le_length (p := fun p => decide (f p < f k)) (l := cO s k)
  by_cases e : List.countP (fun p => decide (f p < f k)) (cO s k) = (cO s k).length
  · have := List.countP_eq_length.mp e k (h.1 k hk).2.1
    rw [decide_eq_true_iff] at this
    omega
  · omega
theorem mix {a c m b : Nat} (h : a < c) (hb : b < m) : a * m + b < c * m := by
  have h1 : (a + 1) * m ≤ c * m := Nat.mul_le_mul_right m h
  rw [Nat.add_mul, Nat.one_mul] at h1
  omega
theorem CP.rnk_lt {s : CS} {P : (Nat → Nat) → Prop} (h : CP s P) (f : Nat → Nat) : ∀ n k, k + n = 12 → rnk P f n k < ord P n k
  | 0, k, _ => by
    show 0 < 1
    decide
  | n + 1, k, hk => mix (h.lsr_lt (by omega) f) (CP.rnk_lt h f n (k + 1) (by omega))
theorem mix_inj {a c m b d : Nat} (hb : b < m) (hd : d < m) (e : a * m + b = c * m + d) : a = c ∧ b = d := by
  rcases Nat.lt_trichotomy a c with z | z | z
  · have := mix z hb
    omega
  · subst z
    exact ⟨rfl, by omega⟩
  · have := mix z hd
    omega
theorem cls_lt {A : List Nat} {g : Nat → Nat} {x y q : Nat} (hq : q ∈ A) (h1 : x ≤ g q) (h2 : g q < y) : cls A g x < cls A g y := by
  unfold cls
  induction A with
  | nil => cases hq
  | cons a r ih =>
    rw [List.countP_cons, List.countP_cons]
    have hle : List.countP (fun p => decide (g p < x)) r ≤ List.countP (fun p => decide (g p < y)) r := List.countP_mono_left (fun p _ hp => by
      rw [decide_eq_true_iff] at hp ⊢
      omega)
    rcases List.mem_cons.mp hq with rfl | hq
    · rw [if_neg (by rw [decide_eq_true_iff]; omega), if_pos (by rw [decide_eq_true_iff]; omega)]
      omega
    · have := ih hq
      by_cases z : g a < x
      · rw [if_pos (by rw [decide_eq_true_iff]; omega), if_pos (by rw [decide_eq_true_iff]; omega)]
        omega
      · rw [if_neg (by rw [decide_eq_true_iff]; omega)]
        omega
theorem CP.rnk_inj {s : CS} {P : (Nat → Nat) → Prop} (h : CP s P) (G : Gr P) {f g : Nat → Nat} (hf : P f) (hg : P g) : ∀ n k, k + n = 12 → (∀ j, j < k → f j = g j) → rnk P f n k = rnk P g n k → f = g
  | 0, k, hk, ha, _ => by
    funext i
    by_cases hi : i < 12
    · exact ha i (by omega)
    · rw [(G.2.2.2 f hf).2.2 i (by omega), (G.2.2.2 g hg).2.2 i (by omega)]
  | n + 1, k, hk, ha, e => by
    have hkk : k < 12 := by omega
    obtain ⟨e1, e2⟩ := mix_inj (h.rnk_lt f n (k + 1) (by omega)) (h.rnk_lt g n (k + 1) (by omega)) e
    refine CP.rnk_inj h G hf hg n (k + 1) (by omega) (fun j hj => ?_) e2
    by_cases hj2 : j < k
    · exact ha j hj2
    · have ej : j = k := by omega
      subst ej
      have hgp := G.2.2.2 g hg
      have h1 := h.z_lsr G hkk hf hg ha
      have h2 := h.lsr0 hkk g
      rw [e1, ← h2] at h1
      have hm : iv g (f j) ∈ cO s j := (h.orb hkk).mpr ⟨cmp f (iv g), G.2.1 _ _ hf (G.2.2.1 _ hg), ⟨(G.2.2.2 f hf).cmp hgp.iv, fun i hi => by
        show iv g (f i) = i
        rw [ha i hi]
        exact hgp.iv_l i⟩, rfl⟩
      have hv : g (iv g (f j)) = f j := hgp.iv_r _
      rcases Nat.lt_trichotomy (f j) (g j) with z | z | z
      · have := cls_lt (g := g) (x := f j) (y := g j) hm (by omega) (by omega)
        omega
      · exact z
      · have := cls_lt (A := cO s j) (g := g) (x := g j) (y := f j) (h.1 j hkk).2.1 (by omega) (by omega)
        omega
theorem cls_step {ld : Nat → Nat} (hl : Pm ld) {x : Nat} : ∀ {A : List Nat}, A.Nodup → cls A ld (x + 1) = cls A ld x + if iv ld x ∈ A then 1 else 0
  | [], _ => by simp [cls]
  | a :: r, hn => by
    have ih := cls_step hl (x := x) (List.nodup_cons.mp hn).2
    unfold cls at ih ⊢
    rw [List.countP_cons, List.countP_cons]
    by_cases e : ld a = x
    · have e2 : iv ld x = a := by rw [← e]; exact hl.iv_l a
      rw [e2] at ih ⊢
      rw [if_neg (List.nodup_cons.mp hn).1] at ih
      rw [if_pos List.mem_cons_self, if_pos (by rw [decide_eq_true_iff]; omega), if_neg (by rw [decide_eq_true_iff]; omega)]
      omega
    · have e2 : iv ld x ≠ a := fun z => e (by rw [← z]; exact hl.iv_r x)
      have e3 : iv ld x ∈ a :: r ↔ iv ld x ∈ r := by
        rw [List.mem_cons]
        exact ⟨fun z => z.resolve_left e2, Or.inr⟩
      simp only [e3]
      by_cases z : ld a < x
      · rw [if_pos (by rw [decide_eq_true_iff]; omega : decide (ld a < x + 1) = true), if_pos (by rw [decide_eq_true_iff]; omega : decide (ld a < x) = true)]
        omega
      · rw [if_neg (by rw [decide_eq_true_iff]; omega : ¬ decide (ld a < x + 1) = true), if_neg (by rw [decide_eq_true_iff]; omega : ¬ decide (ld a < x) = true)]
        omega
theorem cls_len12 {ld : Nat → Nat} (hl : Pm ld) {A : List Nat} (h : ∀ p ∈ A, p < 12) : cls A ld 12 = A.length :=
  List.countP_eq_length.mpr (fun p hp => by rw [decide_eq_true_iff]; exact hl.1 p (h p hp))
theorem cls_0 {ld : Nat → Nat} {A : List Nat} : cls A ld 0 = 0 := List.countP_eq_zero.mpr (fun p hp => by simp)
theorem pick_spec {A : List Nat} {ld : Nat → Nat} {each : Nat} (hA : A.Nodup) (hlt : ∀ p ∈ A, p < 12) (hl : Pm ld) : ∀ n pl lf ch, pl + n = 12 → lf + each * cls A ld pl < each * A.length →
    (pick A (iv ld) each n pl lf ch).1 ∈ A ∧ (pick A (iv ld) each n pl lf ch).2 < each ∧ lf + each * cls A ld pl = cls A ld (ld (pick A (iv ld) each n pl lf ch).1) * each + (pick A (iv ld) each n pl lf ch).2
  | 0, pl, lf, ch, hp, hlf => by
    have : pl = 12 := by omega
    subst this
    rw [cls_len12 hl hlt] at hlf
    omega
  | n + 1, pl, lf, ch, hp, hlf => by
    have hs := cls_step hl (x := pl) hA
    unfold pick
    by_cases hm : iv ld pl ∈ A
    · rw [if_pos hm] at hs
      rw [if_pos hm]
      by_cases hc : lf < each
      · rw [if_pos hc]
        refine ⟨hm, hc, ?_⟩
        show lf + each * cls A ld pl = cls A ld (ld (iv ld pl)) * each + lf
        rw [hl.iv_r, Nat.mul_comm]
        omega
      · rw [if_neg hc]
        have e : lf - each + each * cls A ld (pl + 1) = lf + each * cls A ld pl := by
          rw [hs, Nat.mul_add, Nat.mul_one]
          omega
        have ih := pick_spec hA hlt hl n (pl + 1) (lf - each) (iv ld pl) (by omega) (by rw [e]; exact hlf)
        rw [e] at ih
        exact ih
    · rw [if_neg hm] at hs
      rw [if_neg hm]
      have ih := pick_spec hA hlt hl n (pl + 1) lf (iv ld pl) (by omega) (by rw [hs, Nat.add_zero]; exact hlf)
      rw [hs, Nat.add_zero] at ih
      exact ih
theorem CP.z_rwL {s : CS} {P : (Nat → Nat) → Prop} (h : CP s P) (G : Gr P) : ∀ n k lf ld, k + n = 12 → P ld → lf < ord P n k →
    rwOK s n k lf ld ∧ P (rwL s n k lf ld) ∧ (∀ j, j < k → rwL s n k lf ld j = ld j) ∧ rnk P (rwL s n k lf ld) n k = lf
  | 0, k, lf, ld, hk, hl, hlf => ⟨trivial, hl, fun _ _ => rfl, by
    have : lf < 1 := hlf
    show 0 = lf
    omega⟩
  | n + 1, k, lf, ld, hk, hl, hlf => by
    have hkk : k < 12 := by omega
    have hlp := G.2.2.2 ld hl
    have hlf : lf < oz P k * ord P n (k + 1) := hlf
    rw [← h.z_oz hkk, ← h.z_cfr n (k + 1) (by omega)] at hlf
    obtain ⟨p1, p2, p3⟩ := pick_spec (h.1 k hkk).1 (fun p hp => ((h.orb hkk).mp hp).lt hkk) hlp 12 0 lf k rfl (by rw [cls_0, Nat.mul_comm _ (cO s k).length]; omega)
    rw [cls_0] at p3
    obtain ⟨t1, t2, t3⟩ := h.tk hkk p1
    obtain ⟨i1, i2, i3, i4⟩ := CP.z_rwL h G n (k + 1) (pick (cO s k) (iv ld) (cfr s n (k + 1)) 12 0 lf k).2 (cmp (cT s k (pick (cO s k) (iv ld) (cfr s n (k + 1)) 12 0 lf k).1) ld) (by omega) (G.2.1 _ _ t2 hl) (by rw [← h.z_cfr n (k + 1) (by omega)]; exact p2)
    have hag : ∀ j, j < k → rwL s (n + 1) k lf ld j = ld j := fun j hj => by
      show rwL s n (k + 1) _ _ j = ld j
      rw [i3 j (by omega)]
      show ld (cT s k _ j) = ld j
      rw [t1.2 j hj]
    refine ⟨⟨p1, i1⟩, i2, hag, ?_⟩
    show lsr P (rwL s (n + 1) k lf ld) k * ord P n (k + 1) + rnk P (rwL s (n + 1) k lf ld) n (k + 1) = lf
    have e0 : rnk P (rwL s (n + 1) k lf ld) n (k + 1) = (pick (cO s k) (iv ld) (cfr s n (k + 1)) 12 0 lf k).2 := i4
    have e1 : rwL s (n + 1) k lf ld k = ld (pick (cO s k) (iv ld) (cfr s n (k + 1)) 12 0 lf k).1 := by
      show rwL s n (k + 1) _ _ k = _
      rw [i3 k (by omega)]
      show ld (cT s k _ k) = _
      rw [t3]
    rw [e0, ← h.z_lsr G hkk (show P (rwL s (n + 1) k lf ld) from i2) hl hag, e1, ← h.z_cfr n (k + 1) (by omega)]
    omega
