/-! the ball in the class: diameter, atDistance, solve, within -/
theorem radf_few {ts : List (Nat → Nat)} (h : oN ts ≤ 1500) : radf ts = 1500 := by
  unfold radf
  rw [cd_t.mpr h]
theorem radf_many {ts : List (Nat → Nat)} (h : ¬ oN ts ≤ 1500) : radf ts = 2 := by
  unfold radf
  rw [cd_f.mpr h]
theorem radf_le (ts : List (Nat → Nat)) : radf ts ≤ 1500 := by
  by_cases h : oN ts ≤ 1500
  · rw [radf_few h]; exact Nat.le_refl _
  · rw [radf_many h]; decide
theorem oN_lt {w : Wd} {s : CS} {ts : List (Nat → Nat)} (hc : ChW w s) (h : CP s (Gen ts)) : oN ts < 2 ^ 62 := by
  have := cfr_63 hc (n := 12) (k := 0) (by decide)
  rwa [h.z_cfr 12 0 rfl] at this
theorem KI.ball {w u : Wd} {A : AS} {B : BL} {sl : Nat → Nat} (h : KI w A) (hs : Sm baK w u) (h1 : BaW u B sl) (h2 : HT B sl) (h3 : BaS (mvs A.2.1) (radf A.2.1) B) : KI (wI u 0 0 10 1) A := by
  obtain ⟨⟨⟨n1, n2, n3, n4, n5, n6⟩, mv, ck, bk, sk⟩, xk⟩ := h
  have sm : Sm [0] u (wI u 0 0 10 1) := Sm.wI (k := 0) Sm.rf (by decide)
  have hu0 := hs 0 (by decide)
  refine ⟨⟨⟨n1, n2, n3, ?_, ?_, ?_⟩, (mv.sm hs (by decide)).sm sm (by decide), (ck.sm hs (by decide)).sm sm (by decide), Or.inr ⟨?_, B, sl, h1.sm sm (by decide), h2, h3⟩, sk.cg ?_ ?_⟩, xk.cg ?_ ?_⟩
  · simp [wI_get, hu0.1, n4]
  · simp [wI_get, hu0.1, n5]
  · rw [wI_2, hu0.2]; exact n6
  · simp [wI_get]
  · simp [wI_get, hu0.1]
  · exact (sm 5 (by decide)).1.trans (hs 5 (by decide)).1
  · exact (sm 1 (by decide)).1.trans (hs 1 (by decide)).1
  · exact (sm 7 (by decide)).1.trans (hs 7 (by decide)).1
theorem KI.bk {w : Wd} {A : AS} (h : KI w A) (h1 : w.1 0 0 10 = 1) : ∃ B sl, BaW w B sl ∧ HT B sl ∧ BaS (mvs A.2.1) (radf A.2.1) B := by
  rcases h.1.2.2.2.1 with z | z
  · rw [h1] at z
    exact absurd z (by decide)
  · exact z.2
section
variable {l : Launch} {E : En}
theorem c_fillBall {w : Wd} {A : AS} {po : Option AV → Wd → Prop} (G : GC l E) (hw : KI w A) (hpo : ∀ u, KI u A → u.1 0 0 10 = 1 → Sm clK w u → po none u) : Ctr l E 4 0 mX4_fillBall [vR 0] w po noX := by
  refine Ctr.of (tw := []) G.1 G.2 oX4_ok pgX4_fillBall rfl (by decide) rfl rfl (Nat.le_of_ble_eq_true rfl) ?_
  intro V hV
  obtain ⟨⟨⟨n1, n2, n3, n4, n5, n6⟩, mv, ck, bk, sk⟩, xk⟩ := id hw
  have hp : ∀ t ∈ A.2.1, Pm t := fun t ht => (n2.2 t ht).1
  obtain ⟨s, hc, hcp⟩ := ck.cp
  have h62 := oN_lt hc hcp
  have fin : ∀ x1 : Option AV, V 54 [some (vR 0), x1] [vI (nI (radf A.2.1)), vI (nI (2 * A.2.1.length)), vR 4, vR 3] w 0 := by
    intro x1
    refine hV.go rfl ?_
    rw [← mvs_len]
    refine And.intro (callP_r (c_baFill (po := fun v z => v = none ∧ (∃ B sl, BaW z B sl ∧ HT B sl ∧ BaS (mvs A.2.1) (radf A.2.1) B) ∧ Sm baK w z) G mv (radf_le _) (fun L hL hr => ?_) (fun u B sl a b c d => ⟨rfl, ⟨B, sl, a, b, c⟩, d⟩)) (by decide) (by decide) (fun r u hp => ?_)) trivial
    · by_cases hf : oN A.2.1 ≤ 1500
      · exact Nat.le_trans (hcp.few hp hL (fun f hf => by
          obtain ⟨n, -, h⟩ := hr f hf
          exact Rn_gen hp h)) hf
      · rw [radf_many hf] at hr
        exact two_cap mv.1 hL hr
    · obtain ⟨rfl, ⟨B, sl, a, b, c⟩, d⟩ := hp
      iterate 3 refine hV.go rfl ?_
      refine And.intro (Or.inr rfl) ?_
      refine hV.go rfl ?_
      exact ⟨hpo _ (hw.ball d a b c) (by simp [wI_get]) (Sm.wI (k := 0) (d.mono (by decide)) (by decide)), Nat.le_refl _⟩
  iterate 2 refine hV.go rfl ?_
  rcases bk with h0 | ⟨h0, -⟩
  · refine topI (V := V) h0 ?_
    refine hV.go rfl ?_
    refine And.intro (fun _ => ?_) (fun hc => absurd rfl hc)
    iterate 4 refine hV.go rfl ?_
    refine And.intro (callP_v (c_countFrom (k0 := 0) G hc (by decide)) (by decide) (by decide) ?_) trivial
    rw [hcp.z_cfr 12 0 rfl]
    iterate 3 refine hV.go rfl ?_
    refine And.intro (fun hc => ?_) (fun hc => ?_)
    · have hc : lN 1500 < lN (oN A.2.1) := (lg_cmp_gt _ _).mp hc
      have hm : ¬ oN A.2.1 ≤ 1500 := fun z => by
        have z2 : lN (oN A.2.1) ≤ lN 1500 := (pk_lLE (by omega) (by decide)).mpr z
        exact absurd (Int64.lt_of_lt_of_le hc z2) Int64.lt_irrefl
      iterate 9 refine hV.go rfl ?_
      refine topI (V := V) n5 ?_
      refine hV.go rfl ?_
      refine topI (V := V) (show (2 : Int32) * nI A.2.1.length = nI (2 * A.2.1.length) from (Int32.ofNat_mul 2 _).symm) ?_
      iterate 2 refine hV.go rfl ?_
      refine And.intro (fun _ => ?_) (fun hc => absurd rfl hc)
      refine hV.go rfl ?_
      have := fin (some (vI 0))
      rw [radf_many hm] at this
      exact this
    · have hc : ¬ lN 1500 < lN (oN A.2.1) := fun z => hc ((lg_cmp_gt _ _).mpr z)
      have hm : oN A.2.1 ≤ 1500 := by
        have z2 : lN (oN A.2.1) ≤ lN 1500 := Int64.not_lt.mp hc
        exact (pk_lLE (by omega) (by decide)).mp z2
      iterate 10 refine hV.go rfl ?_
      refine topI (V := V) n5 ?_
      refine hV.go rfl ?_
      refine topI (V := V) (show (2 : Int32) * nI A.2.1.length = nI (2 * A.2.1.length) from (Int32.ofNat_mul 2 _).symm) ?_
      iterate 2 refine hV.go rfl ?_
      refine And.intro (fun hc => absurd (show (1 : Int32) = 0 from hc) (by decide)) (fun _ => ?_)
      iterate 2 refine hV.go rfl ?_
      have := fin (some (vI 1))
      rw [radf_few hm] at this
      exact this
  · refine topI (V := V) h0 ?_
    refine hV.go rfl ?_
    refine And.intro (fun hc => absurd (show (1 : Int32) = 0 from hc) (by decide)) (fun _ => ?_)
    refine hV.go rfl ?_
    exact ⟨hpo w hw h0 Sm.rf, Nat.le_refl _⟩
theorem c_requireFew {w : Wd} {A : AS} {po : Option AV → Wd → Prop} {xo : String → Wd → Prop} (G : GC l E) (hw : KI w A) (h1 : oN A.2.1 ≤ 1500 → ∀ u, KI u A → u.1 0 0 10 = 1 → Sm clK w u → po none u) (h2 : ¬ oN A.2.1 ≤ 1500 → xo xUO w) : Ctr l E 5 1 mX4_requireFewArrangements [vR 0] w po xo := by
  refine Ctr.of (tw := tX4_requireFewArrangements) G.1 G.2 oX4_ok pgX4_requireFewArrangements twX4_requireFewArrangements (by decide) rfl rfl (Nat.le_of_ble_eq_true rfl) ?_
  intro V hV
  obtain ⟨s, hc, hcp⟩ := hw.1.2.2.1.cp
  have h62 := oN_lt hc hcp
  iterate 4 refine hV.go rfl ?_
  refine And.intro (callP_v (c_countFrom (k0 := 0) G hc (by decide)) (by decide) (by decide) ?_) trivial
  rw [hcp.z_cfr 12 0 rfl]
  iterate 3 refine hV.go rfl ?_
  refine And.intro (fun hc => ?_) (fun hc => ?_)
  · have hc : lN (oN A.2.1) ≤ lN 1500 := (lg_cmp_le _ _).mp hc
    rw [pk_lLE (by omega) (by decide)] at hc
    iterate 2 refine hV.go rfl ?_
    refine And.intro (callP_r (c_fillBall (po := fun v z => v = none ∧ KI z A ∧ z.1 0 0 10 = 1 ∧ Sm clK w z) G hw (fun u a b c => ⟨rfl, a, b, c⟩)) (by decide) (by decide) (fun r u hp => ?_)) trivial
    obtain ⟨rfl, a, b, c⟩ := hp
    refine hV.go rfl ?_
    exact ⟨h1 hc u a b c, by decide⟩
  · have hc : ¬ lN (oN A.2.1) ≤ lN 1500 := fun z => hc ((lg_cmp_le _ _).mpr z)
    rw [pk_lLE (by omega) (by decide)] at hc
    refine hV.go rfl ?_
    exact ⟨h2 hc, Nat.le_refl _⟩
theorem c_diameter {w : Wd} {A : AS} {po : Option AV → Wd → Prop} {xo : String → Wd → Prop} (G : GC l E) (hw : KI w A) (h1 : oN A.2.1 ≤ 1500 → ∀ D, IsDia A.2.1 D → D ≤ 1500 → ∀ u, KI u A → Sm clK w u → po (some (vI (nI D))) u) (h2 : ¬ oN A.2.1 ≤ 1500 → xo xUO w) : Ctr l E 6 1 mX4_diameter [vR 0] w po xo := by
  refine Ctr.of (tw := []) G.1 G.2 oX4_ok pgX4_diameter rfl (by decide) rfl rfl (Nat.le_of_ble_eq_true rfl) ?_
  intro V hV
  have hp : ∀ t ∈ A.2.1, Pm t := fun t ht => (hw.1.1.2.1.2 t ht).1
  obtain ⟨s, hc, hcp⟩ := hw.1.2.2.1.cp
  iterate 2 refine hV.go rfl ?_
  refine And.intro (callP_x (c_requireFew (po := fun v z => v = none ∧ oN A.2.1 ≤ 1500 ∧ KI z A ∧ z.1 0 0 10 = 1 ∧ Sm clK w z) (xo := fun X z => X = xUO ∧ z = w ∧ ¬ oN A.2.1 ≤ 1500) G hw (fun f u a b c => ⟨rfl, f, a, b, c⟩) (fun h => ⟨rfl, rfl, h⟩)) (by decide) (by decide) (fun r u hq => ?_) (fun X u hq => ?_)) trivial
  · obtain ⟨rfl, hf, a, b, c⟩ := hq
    obtain ⟨B, sl, k1, k2, k3⟩ := a.bk b
    rw [radf_few hf] at k3
    have hlt : B.length - 1 < B.length := by have := k3.2.2.2.1; omega
    have hx : B[B.length - 1]? = some B[B.length - 1] := List.getElem?_eq_getElem hlt
    iterate 3 refine hV.go rfl ?_
    refine And.intro (callP_v (c_greatest G k1 k3.2.2.2.1 hx) (by decide) (by decide) ?_) trivial
    refine hV.go rfl ?_
    exact ⟨h1 hf _ (ball_dia hcp hp hf k3 hx) (k3.2.2.2.2 _ (List.mem_of_getElem? hx)) u a c, Nat.le_refl _⟩
  · obtain ⟨rfl, rfl, hb⟩ := hq
    exact h2 hb
theorem c_atDistance {w : Wd} {A : AS} {x : Int32} {po : Option AV → Wd → Prop} {xo : String → Wd → Prop} (G : GC l E) (hw : KI w A) (h1 : oN A.2.1 ≤ 1500 → ∀ u, KI u A → Sm clK w u → po (some (vI (nI (cntD A.2.1 x)))) u) (h2 : ¬ oN A.2.1 ≤ 1500 → xo xUO w) : Ctr l E 6 1 mX4_atDistance [vR 0, vI x] w po xo := by
  refine Ctr.of (tw := []) G.1 G.2 oX4_ok pgX4_atDistance rfl (by decide) rfl rfl (Nat.le_of_ble_eq_true rfl) ?_
  intro V hV
  have hp : ∀ t ∈ A.2.1, Pm t := fun t ht => (hw.1.1.2.1.2 t ht).1
  obtain ⟨s, hc, hcp⟩ := hw.1.2.2.1.cp
  iterate 2 refine hV.go rfl ?_
  refine And.intro (callP_x (c_requireFew (po := fun v z => v = none ∧ oN A.2.1 ≤ 1500 ∧ KI z A ∧ z.1 0 0 10 = 1 ∧ Sm clK w z) (xo := fun X z => X = xUO ∧ z = w ∧ ¬ oN A.2.1 ≤ 1500) G hw (fun f u a b c => ⟨rfl, f, a, b, c⟩) (fun h => ⟨rfl, rfl, h⟩)) (by decide) (by decide) (fun r u hq => ?_) (fun X u hq => ?_)) trivial
  · obtain ⟨rfl, hf, a, b, c⟩ := hq
    obtain ⟨B, sl, k1, k2, k3⟩ := a.bk b
    rw [radf_few hf] at k3
    iterate 4 refine hV.go rfl ?_
    refine And.intro (callP_v (c_countAt G k1 x) (by decide) (by decide) ?_) trivial
    refine hV.go rfl ?_
    rw [bcn_cnt hcp hp hf k3 k2.2.2.1]
    exact ⟨h1 hf u a c, Nat.le_refl _⟩
  · obtain ⟨rfl, rfl, hb⟩ := hq
    exact h2 hb
end
