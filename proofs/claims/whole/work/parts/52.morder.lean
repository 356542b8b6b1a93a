/-! the reference's orders and orbits -/
theorem QI.ch {w : Wd} {A : AS} (h : QI w A) (h7 : w.1 30 0 7 = 1) : ∃ s, MC w s ∧ CP s (Gen A.2.1) := by
  rcases h.2.2.2 with z | z
  · rw [h7] at z
    exact absurd z (by decide)
  · exact z.2.1
/-- the chain found, at hand -/
def RC (w : Wd) (A : AS) (s : CS) : Prop := (MN w A.1 A.2.1 A.2.2.1 ∧ True) ∧ w.1 30 0 7 = 1 ∧ MC w s ∧ CP s (Gen A.2.1)
theorem RC.wk {w u : Wd} {A : AS} {s : CS} (h : RC w A s) (hs : Sm wkK w u) : RC u A s := ⟨⟨h.1.1.cg (by rw [(hs 30 (by decide)).1]) (by rw [(hs 30 (by decide)).1]) (hs 31 (by decide)).1 (hs 32 (by decide)).1, trivial⟩, by rw [(hs 30 (by decide)).1]; exact h.2.1, h.2.2.1.cg (hs 34 (by decide)).1 (hs 35 (by decide)).1, h.2.2.2⟩
theorem RC.gr {w : Wd} {A : AS} {s : CS} (h : RC w A s) : Gr (Gen A.2.1) := Gen.pms h.1.1.2.1.2
theorem RC.lw {w : Wd} {A : AS} {s : CS} (h : RC w A s) {f : Nat → Nat} (hf : Gen A.2.1 f) : Lw A.1 f := Gen.lw h.1.1.2.1.2 hf
theorem RC.lo {w : Wd} {A : AS} {s : CS} (h : RC w A s) {k p : Nat} (hk : k < A.1) (hp : p ∈ cO s k) : p < A.1 := by
  have := h.1.1.1.2
  obtain ⟨f, a, b, rfl⟩ := (h.2.2.2.orb (by omega)).mp hp
  exact (h.lw a).lt hk
theorem RC.hi {w : Wd} {A : AS} {s : CS} (h : RC w A s) {k : Nat} (hk : A.1 ≤ k) (h2 : k < 12) : (cO s k).length = 1 := by
  have hcw := (h.2.2.2.1 k h2)
  refine len_eq (B := [k]) hcw.1 (by simp) (fun x => ?_)
  rw [List.mem_singleton]
  constructor
  · intro hp
    obtain ⟨f, a, b, rfl⟩ := (h.2.2.2.orb h2).mp hp
    exact (h.lw a).2 k hk
  · rintro rfl
    exact hcw.2.1
theorem ord_st {P : (Nat → Nat) → Prop} {i : Nat} (hi : i < 12) : ord P (12 - i) i = oz P i * ord P (12 - (i + 1)) (i + 1) := by
  rw [show 12 - i = (12 - (i + 1)) + 1 by omega]
  rfl
theorem rnk_st {P : (Nat → Nat) → Prop} {f : Nat → Nat} {i : Nat} (hi : i < 12) : rnk P f (12 - i) i = lsr P f i * ord P (12 - (i + 1)) (i + 1) + rnk P f (12 - (i + 1)) (i + 1) := by
  rw [show 12 - i = (12 - (i + 1)) + 1 by omega]
  rfl
theorem RC.ord1 {w : Wd} {A : AS} {s : CS} (h : RC w A s) : ∀ m i, i + m = 12 → A.1 ≤ i → ord (Gen A.2.1) m i = 1
  | 0, _, _, _ => rfl
  | m + 1, i, hi, hA => by
    show oz _ i * ord _ m (i + 1) = 1
    rw [RC.ord1 h m (i + 1) (by omega) (by omega), ← h.2.2.2.z_oz (by omega), h.hi hA (by omega)]
theorem RC.rnk0 {w : Wd} {A : AS} {s : CS} (h : RC w A s) (f : Nat → Nat) : ∀ m i, i + m = 12 → A.1 ≤ i → rnk (Gen A.2.1) f m i = 0 := fun m i hi hA => by
  have := h.2.2.2.rnk_lt f m i hi
  rw [h.ord1 m i hi hA] at this
  omega
theorem CP.ord_le {s : CS} {P : (Nat → Nat) → Prop} (h : CP s P) : ∀ m i, i + m = 12 → ord P m i ≤ 12 ^ m
  | 0, _, _ => Nat.le_refl _
  | m + 1, i, hi => by
    show oz P i * ord P m (i + 1) ≤ _
    have h1 := CP.ord_le h m (i + 1) (by omega)
    have h2 : oz P i ≤ 12 := by
      have := List.countP_le_length (p := fun p => cd (Orb P i p)) (l := List.range 12)
      rwa [List.length_range] at this
    rw [Nat.pow_succ, Nat.mul_comm (12 ^ m)]
    exact Nat.mul_le_mul h2 h1
theorem CP.ord_lt {s : CS} {P : (Nat → Nat) → Prop} (h : CP s P) {i : Nat} (hi : i ≤ 12) : ord P (12 - i) i < 2 ^ 62 := by
  have h1 := h.ord_le (12 - i) i (by omega)
  have h2 : 12 ^ (12 - i) ≤ 12 ^ 12 := Nat.pow_le_pow_right (by decide) (by omega)
  have h3 : 12 ^ 12 < 2 ^ 62 := by decide
  omega
theorem CP.ord_pos {s : CS} {P : (Nat → Nat) → Prop} (h : CP s P) {i : Nat} (hi : i ≤ 12) : 0 < ord P (12 - i) i := by
  have := h.rnk_lt idp (12 - i) i (by omega)
  omega
def cn (q : Nat → Bool) (i : Nat) : Nat := (List.range i).countP q
theorem cn_s (q : Nat → Bool) (i : Nat) : cn q (i + 1) = cn q i + if q i = true then 1 else 0 := by
  unfold cn
  rw [List.range_succ, List.countP_append, List.countP_cons, List.countP_nil, Nat.zero_add]
theorem cn_t {q : Nat → Bool} {i : Nat} (h : q i = true) : cn q (i + 1) = cn q i + 1 := by rw [cn_s, if_pos h]
theorem cn_f {q : Nat → Bool} {i : Nat} (h : ¬ q i = true) : cn q (i + 1) = cn q i := by rw [cn_s, if_neg h, Nat.add_zero]
theorem cn_le (q : Nat → Bool) (i : Nat) : cn q i ≤ i := by
  have := List.countP_le_length (p := q) (l := List.range i)
  rwa [List.length_range] at this
theorem cn_mem {A : List Nat} {n : Nat} (p : Nat → Bool) (hA : A.Nodup) (h : ∀ x ∈ A, x < n) : cn (fun x => p x && decide (x ∈ A)) n = A.countP p := by
  unfold cn
  rw [← List.countP_filter]
  refine cnt_eq p (List.Nodup.sublist List.filter_sublist List.nodup_range) hA (fun x => ?_)
  rw [List.mem_filter, List.mem_range, decide_eq_true_iff]
  exact ⟨fun z => z.2, fun z => ⟨h x z, z⟩⟩
theorem cn_len {A : List Nat} {n : Nat} (hA : A.Nodup) (h : ∀ x ∈ A, x < n) : cn (fun x => decide (x ∈ A)) n = A.length := by
  have := cn_mem (fun _ => true) hA h
  simp only [Bool.true_and] at this
  rw [this, List.countP_true]
section
variable {l : Launch} {E : En}
theorem m_orbitOf {w : Wd} {A : AS} {s : CS} {k : Nat} (G : GM l E) (hr : RC w A s) (hk : k < A.1) : Ctr l E 1 0 mX5_orbitOf [vR 30, vI (nI k)] w (fun r u => r = some (vI (nI (oz (Gen A.2.1) k))) ∧ u = w) noX := by
  refine Ctr.of (tw := []) G.1 G.2 oX5_ok pgX5_orbitOf rfl (by decide) rfl rfl (Nat.le_of_ble_eq_true rfl) ?_
  intro V hV
  have n1 := hr.1.1.1
  have n4 := hr.1.1.2.2.2.1
  have loop : ∀ c i : Nat, i + c = A.1 → V 4 [some (vR 30), some (vI (nI k)), some (vI (nI (cn (fun x => decide (x ∈ cO s k)) i))), some (vI (nI i))] [] w 0 := by
    intro c
    induction c with
    | zero =>
      intro i hi
      iterate 3 refine hV.go rfl ?_
      refine topI (V := V) n4 ?_
      refine hV.go rfl ?_
      refine And.intro (fun _ => ?_) (fun hc => absurd (show nI A.1 ≤ nI i from nI_le (by omega) (by omega)) hc)
      repeat refine hV.go rfl ?_
      refine ⟨⟨?_, rfl⟩, Nat.le_refl _⟩
      have : i = A.1 := by omega
      subst this
      rw [cn_len (hr.2.2.2.1 k (by omega)).1 (fun x hx => hr.lo hk hx), hr.2.2.2.z_oz (by omega)]
    | succ c ih =>
      intro i hi
      iterate 3 refine hV.go rfl ?_
      refine topI (V := V) n4 ?_
      refine hV.go rfl ?_
      refine And.intro (fun hc => ?_) (fun _ => ?_)
      · have hc : nI A.1 ≤ nI i := hc
        rw [nI_leI (by omega) (by omega)] at hc
        omega
      iterate 5 refine hV.go rfl ?_
      refine topI (V := V) (nI_mul 12 k) ?_
      iterate 2 refine hV.go rfl ?_
      refine topI (V := V) (nI_add _ _) ?_
      refine hV.go rfl ?_
      refine Exists.intro (12 * k + i) (And.intro rfl (And.intro (show 12 * k + i < 144 by omega) ?_))
      refine topI (V := V) (hr.2.2.1.has (by omega) (by omega)) ?_
      refine hV.go rfl ?_
      refine And.intro (fun hz => ?_) (fun hz => ?_)
      · iterate 4 refine hV.go rfl ?_
        have := ih (i + 1) (by omega)
        rw [cn_f (q := fun x => decide (x ∈ cO s k)) (i := i) (fun e => b2i_ne.mpr e hz), ← nI_inc i] at this
        exact this
      · iterate 3 refine hV.go rfl ?_
        refine topI (V := V) (nI_1 _) ?_
        iterate 4 refine hV.go rfl ?_
        have := ih (i + 1) (by omega)
        rw [cn_t (q := fun x => decide (x ∈ cO s k)) (i := i) (b2i_ne.mp hz), ← nI_inc i] at this
        exact this
  iterate 4 refine hV.go rfl ?_
  exact loop A.1 0 (by omega)
theorem m_orderFrom {w : Wd} {A : AS} {s : CS} {k : Nat} (G : GM l E) (hr : RC w A s) (hk : k ≤ 12) : Ctr l E 2 0 mX5_orderFrom [vR 30, vI (nI k)] w (fun r u => r = some (vJ (lN (ord (Gen A.2.1) (12 - k) k))) ∧ u = w) noX := by
  refine Ctr.of (tw := []) G.1 G.2 oX5_ok pgX5_orderFrom rfl (by decide) rfl rfl (Nat.le_of_ble_eq_true rfl) ?_
  intro V hV
  have n1 := hr.1.1.1
  have n4 := hr.1.1.2.2.2.1
  have loop : ∀ c i : Nat, i + c = 12 → ∀ a : Nat, a * ord (Gen A.2.1) (12 - i) i = ord (Gen A.2.1) (12 - k) k → V 5 [some (vR 30), some (vI (nI k)), some (vJ (lN a)), none, some (vI (nI i))] [] w 0 := by
    intro c
    induction c with
    | zero =>
      intro i hi a ha
      iterate 3 refine hV.go rfl ?_
      refine topI (V := V) n4 ?_
      refine hV.go rfl ?_
      refine And.intro (fun _ => ?_) (fun hc => absurd (show nI A.1 ≤ nI i from nI_le (by omega) (by omega)) hc)
      repeat refine hV.go rfl ?_
      rw [hr.ord1 (12 - i) i (by omega) (by omega), Nat.mul_one] at ha
      rw [← ha]
      exact ⟨⟨rfl, rfl⟩, Nat.le_refl _⟩
    | succ c ih =>
      intro i hi a ha
      iterate 3 refine hV.go rfl ?_
      refine topI (V := V) n4 ?_
      refine hV.go rfl ?_
      refine And.intro (fun hc => ?_) (fun hc => ?_)
      · have hc : nI A.1 ≤ nI i := hc
        rw [nI_leI (by omega) (by omega)] at hc
        repeat refine hV.go rfl ?_
        rw [hr.ord1 (12 - i) i (by omega) (by omega), Nat.mul_one] at ha
        rw [← ha]
        exact ⟨⟨rfl, rfl⟩, Nat.le_refl _⟩
      · have hc : ¬ nI A.1 ≤ nI i := hc
        rw [nI_leI (by omega) (by omega)] at hc
        iterate 4 refine hV.go rfl ?_
        refine And.intro (callP_v (m_orbitOf G hr (show i < A.1 by omega)) (by decide) (by decide) ?_) trivial
        refine hV.go rfl ?_
        have hoz : oz (Gen A.2.1) i ≤ 12 := by
          have := List.countP_le_length (p := fun p => cd (Orb (Gen A.2.1) i p)) (l := List.range 12)
          rwa [List.length_range] at this
        refine topJ (V := V) (nI_l (by omega)) ?_
        refine hV.go rfl ?_
        refine topJ (V := V) (lN_mul _ _) ?_
        iterate 3 refine hV.go rfl ?_
        have := ih (i + 1) (by omega) (a * oz (Gen A.2.1) i) (by rw [← ha, Nat.mul_assoc, ← ord_st (by omega)])
        rw [← nI_inc i] at this
        exact this
  iterate 4 refine hV.go rfl ?_
  exact loop (12 - k) k (by omega) 1 (Nat.one_mul _)
/-- after findRows -/
theorem m_rows {w : Wd} {A : AS} (G : GM l E) (hw : QI w A) : Ctr l E 3 0 mX5_findRows [vR 30] w (fun v u => v = none ∧ ∃ s, RC u A s ∧ QI u A ∧ u.1 30 0 0 = w.1 30 0 0 ∧ Sm frK w u) noX := by
  refine m_findRows G hw (fun u h1 h2 h3 h4 => ⟨rfl, ?_⟩)
  obtain ⟨s, a, b⟩ := h1.ch h2
  exact ⟨s, ⟨⟨h1.1, trivial⟩, h2, a, b⟩, h1, h3, h4⟩
theorem m_order {w : Wd} {A : AS} {po : Option AV → Wd → Prop} (G : GM l E) (hw : QI w A) (hpo : ∀ u, QI u A → u.1 30 0 0 = 0 → Sm mdK w u → po (some (vJ (lN (ord (Gen A.2.1) 12 0)))) u) : Ctr l E 4 0 mX5_order [vR 30] w po noX := by
  refine Ctr.of (tw := []) G.1 G.2 oX5_ok pgX5_order rfl (by decide) rfl rfl (Nat.le_of_ble_eq_true rfl) ?_
  intro V hV
  iterate 5 refine hV.go rfl ?_
  refine And.intro (callP_r (m_rows G (hw.th 0)) (by decide) (by decide) (fun r u hp => ?_)) trivial
  obtain ⟨rfl, s, hr, hqi, h0, hs⟩ := hp
  iterate 3 refine hV.go rfl ?_
  refine And.intro (callP_v (m_orderFrom (k := 0) G hr (by decide)) (by decide) (by decide) ?_) trivial
  refine hV.go rfl ?_
  exact ⟨hpo u hqi (h0.trans wI_eq) ((Sm.wI (k := 30) Sm.rf (by decide)).tr (hs.mono (by decide))), Nat.le_refl _⟩
theorem m_orbit {w : Wd} {A : AS} {x : Int32} {po : Option AV → Wd → Prop} (G : GM l E) (hw : QI w A) (h1 : ∀ a, a < A.1 → x = nI a → ∀ u, QI u A → u.1 30 0 0 = 0 → Sm mdK w u → po (some (vI (nI (oz (Gen A.2.1) a)))) u) (h2 : (x < 0 ∨ nI A.1 ≤ x) → ∀ u, QI u A → u.1 30 0 0 = 1 → Sm mdK w u → po (some (vI 0)) u) : Ctr l E 4 0 mX5_orbit [vR 30, vI x] w po noX := by
  refine Ctr.of (tw := []) G.1 G.2 oX5_ok pgX5_orbit rfl (by decide) rfl rfl (Nat.le_of_ble_eq_true rfl) ?_
  intro V hV
  obtain ⟨n1, n2, n3, n4, n5, n6, n7⟩ := id hw.1
  iterate 4 refine hV.go rfl ?_
  refine And.intro (callP_r (m_isPlace (po := fun v z => z = w ∧ ((v = some (vI 1) ∧ ∃ p, p < A.1 ∧ x = nI p) ∨ (v = some (vI 0) ∧ (x < 0 ∨ nI A.1 ≤ x)))) G n4 n1.2 (fun k hk e => ⟨rfl, Or.inl ⟨rfl, k, hk, e⟩⟩) (fun h => ⟨rfl, Or.inr ⟨rfl, h⟩⟩)) (by decide) (by decide) (fun v z hq => ?_)) trivial
  obtain ⟨rfl, ⟨rfl, a, ha, rfl⟩ | ⟨rfl, hb⟩⟩ := hq
  · refine hV.go rfl ?_
    refine And.intro (fun hc => absurd (show (1 : Int32) = 0 from hc) (by decide)) (fun _ => ?_)
    iterate 5 refine hV.go rfl ?_
    refine topI (V := V) (show (wI z 30 0 0 0).1 30 0 0 = 0 from wI_eq) ?_
    refine hV.go rfl ?_
    refine And.intro (fun _ => ?_) (fun hc => absurd (show (0 : Int32) ≤ 0 by decide) hc)
    iterate 2 refine hV.go rfl ?_
    refine And.intro (callP_r (m_rows G (hw.th 0)) (by decide) (by decide) (fun r u hp => ?_)) trivial
    obtain ⟨rfl, s, hr, hqi, h0, hs⟩ := hp
    iterate 3 refine hV.go rfl ?_
    refine And.intro (callP_v (m_orbitOf G hr ha) (by decide) (by decide) ?_) trivial
    refine hV.go rfl ?_
    exact ⟨h1 a ha rfl u hqi (h0.trans wI_eq) ((Sm.wI (k := 30) Sm.rf (by decide)).tr (hs.mono (by decide))), Nat.le_refl _⟩
  · refine hV.go rfl ?_
    refine And.intro (fun _ => ?_) (fun hc => absurd rfl hc)
    iterate 4 refine hV.go rfl ?_
    refine topI (V := V) (show (wI z 30 0 0 1).1 30 0 0 = 1 from wI_eq) ?_
    refine hV.go rfl ?_
    refine And.intro (fun hc => absurd (show (1 : Int32) ≤ 0 from hc) (by decide)) (fun _ => ?_)
    repeat refine hV.go rfl ?_
    exact ⟨h2 hb _ (hw.th _) wI_eq (Sm.wI (k := 30) Sm.rf (by decide)), Nat.le_refl _⟩
theorem m_inOrbit {w : Wd} {A : AS} {x y : Int32} {po : Option AV → Wd → Prop} (G : GM l E) (hw : QI w A) (h1 : ∀ a b, a < A.1 → b < A.1 → x = nI a → y = nI b → ∀ u, QI u A → u.1 30 0 0 = 0 → Sm mdK w u → po (some (vI (b2i (cd (Orb (Gen A.2.1) a b))))) u) (h2 : ((x < 0 ∨ nI A.1 ≤ x) ∨ (y < 0 ∨ nI A.1 ≤ y)) → ∀ u, QI u A → u.1 30 0 0 = 1 → Sm mdK w u → po (some (vI 0)) u) : Ctr l E 4 0 mX5_inOrbit [vR 30, vI x, vI y] w po noX := by
  refine Ctr.of (tw := []) G.1 G.2 oX5_ok pgX5_inOrbit rfl (by decide) rfl rfl (Nat.le_of_ble_eq_true rfl) ?_
  intro V hV
  obtain ⟨n1, n2, n3, n4, n5, n6, n7⟩ := id hw.1
  have bad : ((x < 0 ∨ nI A.1 ≤ x) ∨ (y < 0 ∨ nI A.1 ≤ y)) → V 21 [some (vR 30), some (vI x), some (vI y)] [vR 30] w 0 := by
    intro hb
    iterate 4 refine hV.go rfl ?_
    refine topI (V := V) (show (wI w 30 0 0 1).1 30 0 0 = 1 from wI_eq) ?_
    refine hV.go rfl ?_
    refine And.intro (fun hc => absurd (show (1 : Int32) ≤ 0 from hc) (by decide)) (fun _ => ?_)
    repeat refine hV.go rfl ?_
    exact ⟨Or.inl rfl, h2 hb _ (hw.th _) wI_eq (Sm.wI (k := 30) Sm.rf (by decide)), Nat.le_refl _⟩
  iterate 4 refine hV.go rfl ?_
  refine And.intro (callP_r (m_isPlace (po := fun v z => z = w ∧ ((v = some (vI 1) ∧ ∃ p, p < A.1 ∧ x = nI p) ∨ (v = some (vI 0) ∧ (x < 0 ∨ nI A.1 ≤ x)))) G n4 n1.2 (fun k hk e => ⟨rfl, Or.inl ⟨rfl, k, hk, e⟩⟩) (fun h => ⟨rfl, Or.inr ⟨rfl, h⟩⟩)) (by decide) (by decide) (fun v z hq => ?_)) trivial
  obtain ⟨rfl, ⟨rfl, a, ha, rfl⟩ | ⟨rfl, hb⟩⟩ := hq
  · refine hV.go rfl ?_
    refine And.intro (fun hc => absurd (show (1 : Int32) = 0 from hc) (by decide)) (fun _ => ?_)
    iterate 3 refine hV.go rfl ?_
    refine And.intro (callP_r (m_isPlace (po := fun v z' => z' = z ∧ ((v = some (vI 1) ∧ ∃ p, p < A.1 ∧ y = nI p) ∨ (v = some (vI 0) ∧ (y < 0 ∨ nI A.1 ≤ y)))) G n4 n1.2 (fun k hk e => ⟨rfl, Or.inl ⟨rfl, k, hk, e⟩⟩) (fun h => ⟨rfl, Or.inr ⟨rfl, h⟩⟩)) (by decide) (by decide) (fun v z' hq => ?_)) trivial
    obtain ⟨rfl, ⟨rfl, b, hb, rfl⟩ | ⟨rfl, hb⟩⟩ := hq
    · refine hV.go rfl ?_
      refine And.intro (fun hc => absurd (show (1 : Int32) = 0 from hc) (by decide)) (fun _ => ?_)
      iterate 5 refine hV.go rfl ?_
      refine topI (V := V) (show (wI z' 30 0 0 0).1 30 0 0 = 0 from wI_eq) ?_
      refine hV.go rfl ?_
      refine And.intro (fun _ => ?_) (fun hc => absurd (show (0 : Int32) ≤ 0 by decide) hc)
      iterate 2 refine hV.go rfl ?_
      refine And.intro (callP_r (m_rows G (hw.th 0)) (by decide) (by decide) (fun r u hp => ?_)) trivial
      obtain ⟨rfl, s, hr, hqi, h0, hs⟩ := hp
      iterate 5 refine hV.go rfl ?_
      refine topI (V := V) (nI_mul 12 a) ?_
      iterate 2 refine hV.go rfl ?_
      refine topI (V := V) (nI_add _ _) ?_
      refine hV.go rfl ?_
      refine Exists.intro (12 * a + b) (And.intro rfl (And.intro (show 12 * a + b < 144 by omega) ?_))
      refine topI (V := V) (hr.2.2.1.has (by omega) (by omega)) ?_
      refine hV.go rfl ?_
      have e : decide (b ∈ cO s a) = cd (Orb (Gen A.2.1) a b) := by
        by_cases z : b ∈ cO s a
        · rw [decide_eq_true z, cd_t.mpr ((hr.2.2.2.orb (by omega)).mp z)]
        · rw [decide_eq_false z, cd_f.mpr (fun q => z ((hr.2.2.2.orb (by omega)).mpr q))]
      rw [e]
      exact ⟨b2i_01 _, h1 a b ha hb rfl rfl u hqi (h0.trans wI_eq) ((Sm.wI (k := 30) Sm.rf (by decide)).tr (hs.mono (by decide))), Nat.le_refl _⟩
    · refine hV.go rfl ?_
      refine And.intro (fun _ => bad (Or.inr hb)) (fun hc => absurd rfl hc)
  · refine hV.go rfl ?_
    refine And.intro (fun _ => bad (Or.inl hb)) (fun hc => absurd rfl hc)
end
