/-! moving, and what the chain answers -/
theorem CK.cp {w : Wd} {ts : List (Nat → Nat)} (h : CK w ts) : ∃ s, ChW w s ∧ CP s (Gen ts) := by
  obtain ⟨s, a, b, c, -, -, d⟩ := h
  exact ⟨s, a, CP.of b (fun f hf => (c 0 (Nat.le_refl _) (by decide) f ⟨hf, fun j hj => by omega⟩).trans (d f))⟩
theorem KS.tb {w : Wd} {n : Nat} {ts : List (Nat → Nat)} {tb tb' : Nat → Nat} {so : List Nat} (h : KS w n ts tb so) (hb : Lw n tb') : KS (wJ w 0 0 9 (rw tb')) n ts tb' so := by
  obtain ⟨⟨n1, n2, n3, n4, n5, n6⟩, h2, h3, h4, h5⟩ := h
  have hs : Sm [0] w (wJ w 0 0 9 (rw tb')) := Sm.wJ (k := 0) Sm.rf (by decide)
  exact ⟨⟨n1, n2, hb, n4, n5, by simp [wJ_get]⟩, h2.sm hs (by decide), h3.sm hs (by decide), h4.cg hs (by decide) rfl, h5.cg rfl rfl⟩
theorem KI.tb {w : Wd} {A : AS} {tb' : Nat → Nat} (h : KI w A) (hb : Lw A.1 tb') : KI (wJ w 0 0 9 (rw tb')) (A.1, A.2.1, tb', A.2.2.2.1, A.2.2.2.2) := ⟨h.1.tb hb, h.2.cg rfl rfl⟩
theorem H_cd {s : CS} {P : (Nat → Nat) → Prop} (h : CP s P) {f : Nat → Nat} (hf : Pm f) : hs s 12 0 f = cd (P f) := by
  rw [Bool.eq_iff_iff, cd_t]
  exact h.2 0 (by decide) f ⟨hf, fun j hj => by omega⟩
theorem ex_lw {n a b : Nat} (hn : n ≤ 12) (ha : a < n) (hb : b < n) : Lw n (fun j => if j = b then a else if j = a then b else j) := by
  refine ⟨⟨fun i hi => ?_, fun i j hi hj e => ?_, fun i hi => ?_⟩, fun i hi => ?_⟩
  · simp only
    split
    · omega
    · split <;> omega
  · simp only at e
    split at e <;> split at e <;> (try split at e) <;> (try split at e) <;> omega
  · simp only
    rw [if_neg (by omega), if_neg (by omega)]
  · simp only
    rw [if_neg (by omega), if_neg (by omega)]
section
variable {l : Launch} {E : En}
theorem c_move {w : Wd} {A : AS} {x : Int32} {po : Option AV → Wd → Prop} {xo : String → Wd → Prop} (G : GC l E) (hw : KI w A) (h1 : ∀ i m, (mvs A.2.1)[i]? = some m → x = nI i → ∀ u, KI u (A.1, A.2.1, cmp A.2.2.1 m, A.2.2.2.1, A.2.2.2.2) → Sm clK w u → po none u) (h2 : (x < 0 ∨ nI (2 * A.2.1.length) ≤ x) → xo xIO w) : Ctr l E 2 1 mX4_move [vR 0, vI x] w po xo := by
  refine Ctr.of (tw := tX4_move) G.1 G.2 oX4_ok pgX4_move twX4_move (by decide) rfl rfl (Nat.le_of_ble_eq_true rfl) ?_
  intro V hV
  obtain ⟨⟨n1, n2, n3, n4, n5, n6⟩, mv, -⟩ := hw.1
  iterate 2 refine hV.go rfl ?_
  refine And.intro (fun hc => ?_) (fun hc => ?_)
  · refine hV.go rfl ?_
    exact ⟨h2 (Or.inl hc), Nat.le_refl _⟩
  · have hc : ¬ x < 0 := hc
    iterate 4 refine hV.go rfl ?_
    refine topI (V := V) n5 ?_
    refine hV.go rfl ?_
    refine topI (V := V) (show (2 : Int32) * nI A.2.1.length = nI (2 * A.2.1.length) from (Int32.ofNat_mul 2 _).symm) ?_
    refine hV.go rfl ?_
    rcases bnd x (n := 2 * A.2.1.length) (by omega) with ⟨i, hi, rfl⟩ | hb
    · refine And.intro (fun hc2 => ?_) (fun hc2 => ?_)
      · have hi2 : i < (mvs A.2.1).length := by rw [mvs_len]; exact hi
        have hm : (mvs A.2.1)[i]? = some (mvs A.2.1)[i] := List.getElem?_eq_getElem hi2
        have hL := mvs_lw n2.2 _ (List.mem_of_getElem? hm)
        iterate 3 refine hV.go rfl ?_
        refine topJ (V := V) n6 ?_
        iterate 4 refine hV.go rfl ?_
        refine Exists.intro i (And.intro rfl (And.intro (show i < 10 by omega) ?_))
        refine topJ (V := V) (mv.2.2 _ _ hm) ?_
        refine hV.go rfl ?_
        refine And.intro (callP_v (c_then G n3.1.1 hL.1.lt16 _) (by decide) (by decide) ?_) trivial
        repeat refine hV.go rfl ?_
        exact ⟨h1 i _ hm rfl _ (hw.tb (n3.cmp hL)) (Sm.wJ (k := 0) Sm.rf (by decide)), (by decide)⟩
      · exact absurd (show nI i < nI (2 * A.2.1.length) from nI_lt hi (by omega)) hc2
    · refine And.intro (fun hc2 => ?_) (fun hc2 => ?_)
      · have hc2 : x < nI (2 * A.2.1.length) := hc2
        rcases hb with hb | hb
        · exact absurd hb hc
        · exact absurd (Int32.lt_of_lt_of_le hc2 hb) (Int32.lt_irrefl)
      · refine hV.go rfl ?_
        exact ⟨h2 hb, Nat.le_refl _⟩
theorem c_swap {w : Wd} {A : AS} {x y : Int32} {po : Option AV → Wd → Prop} {xo : String → Wd → Prop} (G : GC l E) (hw : KI w A) (h1 : ∀ a b, a < A.1 → b < A.1 → x = nI a → y = nI b → ∀ u, KI u (A.1, A.2.1, cmp A.2.2.1 (fun j => if j = b then a else if j = a then b else j), A.2.2.2.1, A.2.2.2.2) → Sm clK w u → po none u) (h2 : ((x < 0 ∨ nI A.1 ≤ x) ∨ (y < 0 ∨ nI A.1 ≤ y)) → xo xIO w) : Ctr l E 3 2 mX4_swap [vR 0, vI x, vI y] w po xo := by
  refine Ctr.of (tw := []) G.1 G.2 oX4_ok pgX4_swap rfl (by decide) rfl rfl (Nat.le_of_ble_eq_true rfl) ?_
  intro V hV
  obtain ⟨⟨n1, n2, n3, n4, n5, n6⟩, mv, -⟩ := hw.1
  iterate 3 refine hV.go rfl ?_
  refine And.intro (callP_x (c_requireSticker (po := fun v z => v = none ∧ z = w ∧ ∃ i, i < A.1 ∧ x = nI i) (xo := fun X z => X = xIO ∧ z = w ∧ (x < 0 ∨ nI A.1 ≤ x)) G n4 n1.2 (fun k hk e => ⟨rfl, rfl, k, hk, e⟩) (fun h => ⟨rfl, rfl, h⟩)) (by decide) (by decide) (fun r u hp => ?_) (fun X u hp => ?_)) trivial
  · obtain ⟨rfl, rfl, a, ha, rfl⟩ := hp
    iterate 3 refine hV.go rfl ?_
    refine And.intro (callP_x (c_requireSticker (po := fun v z => v = none ∧ z = u ∧ ∃ i, i < A.1 ∧ y = nI i) (xo := fun X z => X = xIO ∧ z = u ∧ (y < 0 ∨ nI A.1 ≤ y)) G n4 n1.2 (fun k hk e => ⟨rfl, rfl, k, hk, e⟩) (fun h => ⟨rfl, rfl, h⟩)) (by decide) (by decide) (fun r u1 hp => ?_) (fun X u1 hp => ?_)) trivial
    · obtain ⟨rfl, rfl, b, hb, rfl⟩ := hp
      have hL := ex_lw n1.2 ha hb
      iterate 3 refine hV.go rfl ?_
      refine topJ (V := V) n6 ?_
      iterate 3 refine hV.go rfl ?_
      refine And.intro (callP_v (c_exchange G (by omega) (by omega) _) (by decide) (by decide) ?_) trivial
      refine hV.go rfl ?_
      refine And.intro (callP_v (c_then G n3.1.1 hL.1.lt16 _) (by decide) (by decide) ?_) trivial
      repeat refine hV.go rfl ?_
      exact ⟨h1 a b ha hb rfl rfl _ (hw.tb (n3.cmp hL)) (Sm.wJ (k := 0) Sm.rf (by decide)), Nat.le_refl _⟩
    · obtain ⟨rfl, rfl, hb⟩ := hp
      exact h2 (Or.inr hb)
  · obtain ⟨rfl, rfl, hb⟩ := hp
    exact h2 (Or.inl hb)
theorem c_reset {w : Wd} {A : AS} {po : Option AV → Wd → Prop} (G : GC l E) (hw : KI w A) (h1 : ∀ u, KI u (A.1, A.2.1, idp, A.2.2.2.1, A.2.2.2.2) → Sm clK w u → po none u) : Ctr l E 1 0 mX4_reset [vR 0] w po noX := by
  refine Ctr.of (tw := []) G.1 G.2 oX4_ok pgX4_reset rfl (by decide) rfl rfl (Nat.le_of_ble_eq_true rfl) ?_
  intro V hV
  iterate 2 refine hV.go rfl ?_
  refine topJ (V := V) rw_id ?_
  repeat refine hV.go rfl ?_
  exact ⟨h1 _ (hw.tb (Lw.id _)) (Sm.wJ (k := 0) Sm.rf (by decide)), Nat.le_refl _⟩
theorem c_place {w : Wd} {A : AS} {x : Int32} {po : Option AV → Wd → Prop} {xo : String → Wd → Prop} (G : GC l E) (hw : KI w A) (h1 : ∀ a, a < A.1 → x = nI a → po (some (vI (nI (A.2.2.1 a)))) w) (h2 : (x < 0 ∨ nI A.1 ≤ x) → xo xIO w) : Ctr l E 2 1 mX4_place [vR 0, vI x] w po xo := by
  refine Ctr.of (tw := []) G.1 G.2 oX4_ok pgX4_place rfl (by decide) rfl rfl (Nat.le_of_ble_eq_true rfl) ?_
  intro V hV
  obtain ⟨⟨n1, n2, n3, n4, n5, n6⟩, mv, -⟩ := hw.1
  iterate 3 refine hV.go rfl ?_
  refine And.intro (callP_x (c_requireSticker (po := fun v z => v = none ∧ z = w ∧ ∃ i, i < A.1 ∧ x = nI i) (xo := fun X z => X = xIO ∧ z = w ∧ (x < 0 ∨ nI A.1 ≤ x)) G n4 n1.2 (fun k hk e => ⟨rfl, rfl, k, hk, e⟩) (fun h => ⟨rfl, rfl, h⟩)) (by decide) (by decide) (fun r u hp => ?_) (fun X u hp => ?_)) trivial
  · obtain ⟨rfl, rfl, a, ha, rfl⟩ := hp
    iterate 2 refine hV.go rfl ?_
    refine topJ (V := V) n6 ?_
    iterate 2 refine hV.go rfl ?_
    refine And.intro (callP_v (c_at G n3.1.lt16 (by omega) _) (by decide) (by decide) ?_) trivial
    refine hV.go rfl ?_
    exact ⟨h1 a ha rfl, Nat.le_refl _⟩
  · obtain ⟨rfl, rfl, hb⟩ := hp
    exact h2 hb
theorem c_order {w : Wd} {A : AS} (G : GC l E) (hw : KI w A) : Ctr l E 2 0 mX4_order [vR 0] w (fun r u => r = some (vJ (lN (ord (Gen A.2.1) 12 0))) ∧ u = w) noX := by
  refine Ctr.of (tw := []) G.1 G.2 oX4_ok pgX4_order rfl (by decide) rfl rfl (Nat.le_of_ble_eq_true rfl) ?_
  intro V hV
  obtain ⟨s, hc, hp⟩ := hw.1.2.2.1.cp
  iterate 4 refine hV.go rfl ?_
  refine And.intro (callP_v (c_countFrom (k0 := 0) G hc (by decide)) (by decide) (by decide) ?_) trivial
  refine hV.go rfl ?_
  rw [hp.z_cfr 12 0 rfl]
  exact ⟨⟨rfl, rfl⟩, Nat.le_refl _⟩
theorem c_orbit {w : Wd} {A : AS} {x : Int32} {po : Option AV → Wd → Prop} {xo : String → Wd → Prop} (G : GC l E) (hw : KI w A) (h1 : ∀ a, a < A.1 → x = nI a → po (some (vI (nI (oz (Gen A.2.1) a)))) w) (h2 : (x < 0 ∨ nI A.1 ≤ x) → xo xIO w) : Ctr l E 2 1 mX4_orbit [vR 0, vI x] w po xo := by
  refine Ctr.of (tw := []) G.1 G.2 oX4_ok pgX4_orbit rfl (by decide) rfl rfl (Nat.le_of_ble_eq_true rfl) ?_
  intro V hV
  obtain ⟨⟨n1, n2, n3, n4, n5, n6⟩, mv, -⟩ := hw.1
  obtain ⟨s, hc, hcp⟩ := hw.1.2.2.1.cp
  iterate 3 refine hV.go rfl ?_
  refine And.intro (callP_x (c_requireSticker (po := fun v z => v = none ∧ z = w ∧ ∃ i, i < A.1 ∧ x = nI i) (xo := fun X z => X = xIO ∧ z = w ∧ (x < 0 ∨ nI A.1 ≤ x)) G n4 n1.2 (fun k hk e => ⟨rfl, rfl, k, hk, e⟩) (fun h => ⟨rfl, rfl, h⟩)) (by decide) (by decide) (fun r u hp => ?_) (fun X u hp => ?_)) trivial
  · obtain ⟨rfl, rfl, a, ha, rfl⟩ := hp
    iterate 4 refine hV.go rfl ?_
    refine And.intro (callP_v (c_orbitSize G hc (by omega)) (by decide) (by decide) ?_) trivial
    refine hV.go rfl ?_
    rw [hcp.z_oz (by omega)]
    exact ⟨h1 a ha rfl, Nat.le_refl _⟩
  · obtain ⟨rfl, rfl, hb⟩ := hp
    exact h2 hb
theorem c_inOrbit {w : Wd} {A : AS} {x y : Int32} {po : Option AV → Wd → Prop} {xo : String → Wd → Prop} (G : GC l E) (hw : KI w A) (h1 : ∀ a b, a < A.1 → b < A.1 → x = nI a → y = nI b → po (some (vI (b2i (cd (Orb (Gen A.2.1) a b))))) w) (h2 : ((x < 0 ∨ nI A.1 ≤ x) ∨ (y < 0 ∨ nI A.1 ≤ y)) → xo xIO w) : Ctr l E 2 2 mX4_inOrbit [vR 0, vI x, vI y] w po xo := by
  refine Ctr.of (tw := []) G.1 G.2 oX4_ok pgX4_inOrbit rfl (by decide) rfl rfl (Nat.le_of_ble_eq_true rfl) ?_
  intro V hV
  obtain ⟨⟨n1, n2, n3, n4, n5, n6⟩, mv, -⟩ := hw.1
  obtain ⟨s, hc, hcp⟩ := hw.1.2.2.1.cp
  iterate 3 refine hV.go rfl ?_
  refine And.intro (callP_x (c_requireSticker (po := fun v z => v = none ∧ z = w ∧ ∃ i, i < A.1 ∧ x = nI i) (xo := fun X z => X = xIO ∧ z = w ∧ (x < 0 ∨ nI A.1 ≤ x)) G n4 n1.2 (fun k hk e => ⟨rfl, rfl, k, hk, e⟩) (fun h => ⟨rfl, rfl, h⟩)) (by decide) (by decide) (fun r u hp => ?_) (fun X u hp => ?_)) trivial
  · obtain ⟨rfl, rfl, a, ha, rfl⟩ := hp
    iterate 3 refine hV.go rfl ?_
    refine And.intro (callP_x (c_requireSticker (po := fun v z => v = none ∧ z = u ∧ ∃ i, i < A.1 ∧ y = nI i) (xo := fun X z => X = xIO ∧ z = u ∧ (y < 0 ∨ nI A.1 ≤ y)) G n4 n1.2 (fun k hk e => ⟨rfl, rfl, k, hk, e⟩) (fun h => ⟨rfl, rfl, h⟩)) (by decide) (by decide) (fun r u1 hp => ?_) (fun X u1 hp => ?_)) trivial
    · obtain ⟨rfl, rfl, b, hb, rfl⟩ := hp
      iterate 5 refine hV.go rfl ?_
      refine And.intro (callP_v (c_takes G hc hcp.1 (by omega) (by omega)) (by decide) (by decide) ?_) trivial
      refine hV.go rfl ?_
      have e : decide (b ∈ cO s a) = cd (Orb (Gen A.2.1) a b) := by
        rw [Bool.eq_iff_iff, cd_t, decide_eq_true_iff]
        exact hcp.orb (by omega)
      rw [e]
      exact ⟨b2i_01 _, h1 a b ha hb rfl rfl, Nat.le_refl _⟩
    · obtain ⟨rfl, rfl, hb⟩ := hp
      exact h2 (Or.inr hb)
  · obtain ⟨rfl, rfl, hb⟩ := hp
    exact h2 (Or.inl hb)
theorem c_reachable {w : Wd} {A : AS} (G : GC l E) (hw : KI w A) : Ctr l E 4 0 mX4_reachable [vR 0] w (fun r u => r = some (vI (b2i (cd (Gen A.2.1 A.2.2.1)))) ∧ u = w) noX := by
  refine Ctr.of (tw := []) G.1 G.2 oX4_ok pgX4_reachable rfl (by decide) rfl rfl (Nat.le_of_ble_eq_true rfl) ?_
  intro V hV
  obtain ⟨⟨n1, n2, n3, n4, n5, n6⟩, mv, -⟩ := hw.1
  obtain ⟨s, hc, hcp⟩ := hw.1.2.2.1.cp
  iterate 4 refine hV.go rfl ?_
  refine topJ (V := V) n6 ?_
  refine hV.go rfl ?_
  refine And.intro (callP_v (c_holds G hc hcp.1 n3.1) (by decide) (by decide) ?_) trivial
  refine hV.go rfl ?_
  rw [H_cd hcp n3.1]
  exact ⟨b2i_01 _, ⟨rfl, rfl⟩, Nat.le_refl _⟩
theorem c_rank {w : Wd} {A : AS} {po : Option AV → Wd → Prop} {xo : String → Wd → Prop} (G : GC l E) (hw : KI w A) (h1 : Gen A.2.1 A.2.2.1 → po (some (vJ (lN (rnk (Gen A.2.1) A.2.2.1 12 0)))) w) (h2 : ¬ Gen A.2.1 A.2.2.1 → xo xIS w) : Ctr l E 4 1 mX4_rank [vR 0] w po xo := by
  refine Ctr.of (tw := tX4_rank) G.1 G.2 oX4_ok pgX4_rank twX4_rank (by decide) rfl rfl (Nat.le_of_ble_eq_true rfl) ?_
  intro V hV
  obtain ⟨⟨n1, n2, n3, n4, n5, n6⟩, mv, -⟩ := hw.1
  obtain ⟨s, hc, hcp⟩ := hw.1.2.2.1.cp
  have hh := H_cd hcp n3.1
  iterate 4 refine hV.go rfl ?_
  refine topJ (V := V) n6 ?_
  refine hV.go rfl ?_
  refine And.intro (callP_v (c_holds G hc hcp.1 n3.1) (by decide) (by decide) ?_) trivial
  refine hV.go rfl ?_
  refine And.intro (fun hcd => ?_) (fun hcd => ?_)
  · have hcd : ¬ b2i (hs s 12 0 A.2.2.1) = 0 := hcd
    rw [b2i_ne] at hcd
    have hg : Gen A.2.1 A.2.2.1 := cd_t.mp (hh.symm.trans hcd)
    iterate 4 refine hV.go rfl ?_
    refine topJ (V := V) n6 ?_
    refine hV.go rfl ?_
    refine And.intro (callP_v (c_rankOf G hc hcp.1 n3.1 hcd) (by decide) (by decide) ?_) trivial
    refine hV.go rfl ?_
    rw [hcp.z_rkL (Gen.pms n2.2) hg 12 0 0 idp _ rfl (Gen.id _) hg ⟨n3.1, fun j hj => by omega⟩ rfl, Nat.zero_mul, Nat.zero_add]
    exact ⟨h1 hg, (by decide)⟩
  · have hcd : ¬ ¬ b2i (hs s 12 0 A.2.2.1) = 0 := hcd
    rw [b2i_ne] at hcd
    refine hV.go rfl ?_
    exact ⟨h2 (fun z => hcd (hh.trans (cd_t.mpr z))), Nat.le_refl _⟩
theorem c_character {w : Wd} {A : AS} (x : Int32) (G : GC l E) (hw : KI w A) : Ctr l E 2 0 mX4_character [vR 0, vI x] w (fun r u => r = some (vI (chI A.2.2.2.1 x)) ∧ u = w) noX := by
  refine Ctr.of (tw := []) G.1 G.2 oX4_ok pgX4_character rfl (by decide) rfl rfl (Nat.le_of_ble_eq_true rfl) ?_
  intro V hV
  iterate 4 refine hV.go rfl ?_
  refine And.intro (callP_v (c_signAt G hw.2) (by decide) (by decide) ?_) trivial
  refine hV.go rfl ?_
  exact ⟨⟨rfl, rfl⟩, Nat.le_refl _⟩
theorem c_solution {w : Wd} {A : AS} {x : Int32} {po : Option AV → Wd → Prop} (G : GC l E) (hw : KI w A) (h1 : ∀ i m, A.2.2.2.2[i]? = some m → x = nI i → po (some (vI (nI m))) w) (h2 : (x < 0 ∨ nI A.2.2.2.2.length ≤ x) → po (some (vI (-1))) w) : Ctr l E 1 0 mX4_solution [vR 0, vI x] w po noX := by
  refine Ctr.of (tw := []) G.1 G.2 oX4_ok pgX4_solution rfl (by decide) rfl rfl (Nat.le_of_ble_eq_true rfl) ?_
  intro V hV
  obtain ⟨s1, s2, s3, s4⟩ := hw.1.2.2.2.2
  iterate 2 refine hV.go rfl ?_
  refine And.intro (fun hc => ?_) (fun hc => ?_)
  · repeat refine hV.go rfl ?_
    exact ⟨h2 (Or.inl hc), Nat.le_refl _⟩
  · have hc : ¬ x < 0 := hc
    iterate 3 refine hV.go rfl ?_
    refine topI (V := V) s2 ?_
    refine hV.go rfl ?_
    rcases bnd x (n := A.2.2.2.2.length) (by omega) with ⟨i, hi, rfl⟩ | hb
    · refine And.intro (fun hc2 => ?_) (fun hc2 => ?_)
      · have hc2 : nI A.2.2.2.2.length ≤ nI i := hc2
        rw [nI_leI (by omega) (by omega)] at hc2
        omega
      · have hm : A.2.2.2.2[i]? = some A.2.2.2.2[i] := List.getElem?_eq_getElem hi
        iterate 4 refine hV.go rfl ?_
        refine Exists.intro i (And.intro rfl (And.intro (show i < 1500 by omega) ?_))
        refine topI (V := V) (s3 i _ hm) ?_
        repeat refine hV.go rfl ?_
        exact ⟨h1 i _ hm rfl, Nat.le_refl _⟩
    · refine And.intro (fun hc2 => ?_) (fun hc2 => ?_)
      · repeat refine hV.go rfl ?_
        exact ⟨h2 hb, Nat.le_refl _⟩
      · have hc2 : ¬ nI A.2.2.2.2.length ≤ x := hc2
        rcases hb with hb | hb
        · exact absurd hb hc
        · exact absurd hb hc2
theorem c_write {w : Wd} {A : AS} {x : Int32} {po : Option AV → Wd → Prop} {xo : String → Wd → Prop} (G : GC l E) (hw : KI w A) (h1 : ∀ f, ((x = -1 ∧ f = A.2.2.1) ∨ ∃ i, A.2.1[i]? = some f ∧ x = nI i) → ∀ u, KI u (A.1, A.2.1, A.2.2.1, wrL f 12 0 [], A.2.2.2.2) → Sm clK w u → po (some (vI (nI (wrL f 12 0 []).length))) u) (h2 : x ≠ -1 → (x < 0 ∨ nI A.2.1.length ≤ x) → xo xIO w) : Ctr l E 5 1 mX4_write [vR 0, vI x] w po xo := by
  refine Ctr.of (tw := []) G.1 G.2 oX4_ok pgX4_write rfl (by decide) rfl rfl (Nat.le_of_ble_eq_true rfl) ?_
  intro V hV
  obtain ⟨⟨n1, n2, n3, n4, n5, n6⟩, mv, -⟩ := hw.1
  have fin : ∀ (f : Nat → Nat) (L : List (Option AV)) (c : Nat), c ≤ 1 → Pm f → ((x = -1 ∧ f = A.2.2.1) ∨ ∃ i, A.2.1[i]? = some f ∧ x = nI i) → V 34 L [vJ (rw f), vR 1] w c := by
    intro f L c hc hf hor
    refine hV.go rfl ?_
    refine And.intro (callP_r (c_writeCycles (po := fun v z => v = some (vI (nI (wrL f 12 0 []).length)) ∧ TxW z (wrL f 12 0 []) ∧ Sm txK w z) G hw.2 hf (fun u a b => ⟨rfl, a, b⟩)) (by decide) hc (fun r u hp => ?_)) trivial
    obtain ⟨rfl, ht, hs⟩ := hp
    refine hV.go rfl ?_
    exact ⟨h1 f hor u ⟨hw.1.sm hs (by decide), ht⟩ (hs.mono (by decide)), hc⟩
  iterate 3 refine hV.go rfl ?_
  refine And.intro (fun hc => ?_) (fun hc => ?_)
  · have hc : x = -1 := hc
    subst hc
    iterate 5 refine hV.go rfl ?_
    refine And.intro (fun hc => absurd rfl hc) (fun hc => ?_)
    iterate 2 refine hV.go rfl ?_
    refine topJ (V := V) n6 ?_
    refine hV.go rfl ?_
    exact fin _ _ 0 (by decide) n3.1 (Or.inl ⟨rfl, rfl⟩)
  · have hc : ¬ x = -1 := hc
    iterate 3 refine hV.go rfl ?_
    refine And.intro (callP_x (c_requireTurn (po := fun v z => v = none ∧ z = w ∧ ∃ i, i < A.2.1.length ∧ x = nI i) (xo := fun X z => X = xIO ∧ z = w ∧ (x < 0 ∨ nI A.2.1.length ≤ x)) G n5 n2.1 (fun k hk e => ⟨rfl, rfl, k, hk, e⟩) (fun h => ⟨rfl, rfl, h⟩)) (by decide) (by decide) (fun r u hp => ?_) (fun X u hp => ?_)) trivial
    · obtain ⟨rfl, rfl, i, hi, rfl⟩ := hp
      have ht : A.2.1[i]? = some A.2.1[i] := List.getElem?_eq_getElem hi
      have hL := n2.2 _ (List.mem_of_getElem? ht)
      iterate 5 refine hV.go rfl ?_
      refine And.intro (fun _ => ?_) (fun hc2 => absurd hc hc2)
      iterate 5 refine hV.go rfl ?_
      refine topI (V := V) (show (2 : Int32) * nI i = nI (2 * i) from (Int32.ofNat_mul 2 i).symm) ?_
      refine hV.go rfl ?_
      refine Exists.intro (2 * i) (And.intro rfl (And.intro (show 2 * i < 10 by omega) ?_))
      refine topJ (V := V) (mv.2.2 _ _ (mvs_ev _ i _ ht).1) ?_
      exact fin _ _ _ (by decide) hL.1 (Or.inr ⟨i, ht, rfl⟩)
    · obtain ⟨rfl, rfl, hb⟩ := hp
      exact h2 hc hb
end
