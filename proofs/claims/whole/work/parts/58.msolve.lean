/-! the reference solves -/
section
variable {l : Launch} {E : En}
theorem m_fail {w : Wd} {x : Int32} (G : GM l E) : Ctr l E 1 0 mX5_fail [vR 30, vI x] w (fun r u => r = some (vI 0) ∧ u = wI w 30 0 0 x) noX := by
  refine Ctr.of (tw := []) G.1 G.2 oX5_ok pgX5_fail rfl (by decide) rfl rfl (Nat.le_of_ble_eq_true rfl) ?_
  intro V hV
  repeat refine hV.go rfl ?_
  exact ⟨⟨rfl, rfl⟩, Nat.le_refl _⟩
theorem m_solve {w : Wd} {A : AS} {po : Option AV → Wd → Prop} (G : GM l E) (hw : QI w A)
    (h1 : oN A.2.1 ≤ 1500 → ∀ d so, Gen A.2.1 A.2.2.1 → Dst (mvs A.2.1) A.2.2.1 d → Gdy (mvs A.2.1) d A.2.2.1 so → ∀ u, QI u (A.1, A.2.1, A.2.2.1, A.2.2.2.1, so) → u.1 30 0 0 = 0 → Sm mdK w u → po (some (vI (nI d))) u)
    (h2 : oN A.2.1 ≤ 1500 → ¬ Gen A.2.1 A.2.2.1 → ∀ u, QI u A → u.1 30 0 0 = 2 → Sm mdK w u → po (some (vI 0)) u) (h3 : ¬ oN A.2.1 ≤ 1500 → ∀ u, QI u A → u.1 30 0 0 = 1 → Sm mdK w u → po (some (vI 0)) u) : Ctr l E 7 0 mX5_solve [vR 30] w po noX := by
  refine Ctr.of (tw := []) G.1 G.2 oX5_ok pgX5_solve rfl (by decide) rfl rfl (Nat.le_of_ble_eq_true rfl) ?_
  intro V hV
  iterate 3 refine hV.go rfl ?_
  refine And.intro (callP_r (m_areFew (po := fun v z => QI z A ∧ (∃ s, RC z A s) ∧ Sm frK w z ∧ ((oN A.2.1 ≤ 1500 ∧ v = some (vI 1)) ∨ (¬ oN A.2.1 ≤ 1500 ∧ v = some (vI 0)))) G hw (fun h u s a b c d => ⟨b, ⟨s, a⟩, d, Or.inl ⟨h, rfl⟩⟩) (fun h u s a b c d => ⟨b, ⟨s, a⟩, d, Or.inr ⟨h, rfl⟩⟩)) (by decide) (by decide) (fun r u hp => ?_)) trivial
  obtain ⟨hq, ⟨s, hr⟩, hs, ⟨ho, rfl⟩ | ⟨ho, rfl⟩⟩ := hp
  · refine hV.go rfl ?_
    refine And.intro (fun hc => absurd (show (1 : Int32) = 0 from hc) (by decide)) (fun _ => ?_)
    iterate 5 refine hV.go rfl ?_
    refine topI (V := V) (show (wI u 30 0 0 0).1 30 0 0 = 0 from wI_eq) ?_
    refine hV.go rfl ?_
    refine And.intro (fun _ => ?_) (fun hc => absurd (show (0 : Int32) ≤ 0 by decide) hc)
    have q0 := hq.th 0
    have s0 : Sm mdK w (wI u 30 0 0 0) := (hs.mono (by decide)).tr (Sm.wI (k := 30) Sm.rf (by decide))
    iterate 2 refine hV.go rfl ?_
    refine And.intro (callP_r (m_takeTable (tb := A.2.2.1) (po := fun v z => v = none ∧ (∀ s, s < A.1 → z.1 37 0 s = nI (A.2.2.1 s)) ∧ Sm [37] (wI u 30 0 0 0) z) G q0.1.1.2 q0.1.2.2.2.2.2.2 (fun u a b => ⟨rfl, a, b⟩)) (by decide) (by decide) (fun r y hp => ?_)) trivial
    obtain ⟨rfl, h37, hsy⟩ := hp
    have hqy : QI y A := q0.wk (hsy.mono (by decide))
    have sy : Sm mdK w y := s0.tr (hsy.mono (by decide))
    have y0 : y.1 30 0 0 = 0 := by rw [(hsy 30 (by decide)).1]; exact wI_eq
    iterate 2 refine hV.go rfl ?_
    refine And.intro (callP_r (m_rankOf (po := fun v z => QI z A ∧ (∃ s, RC z A s) ∧ z.1 30 0 0 = 0 ∧ Sm mdK w z ∧ ((Gen A.2.1 A.2.2.1 ∧ v = some (vJ (lN (rN A.2.1 A.2.2.1)))) ∨ (¬ Gen A.2.1 A.2.2.1 ∧ v = some (vJ (-1))))) G hqy h37 hw.1.2.2.1 (fun z s hr hqz h0 hs2 hg => ⟨hqz, ⟨s, hr⟩, h0.trans y0, sy.tr hs2, Or.inl ⟨hg, rfl⟩⟩) (fun z s hr hqz h0 hs2 hg => ⟨hqz, ⟨s, hr⟩, h0.trans y0, sy.tr hs2, Or.inr ⟨hg, rfl⟩⟩)) (by decide) (by decide) (fun r z hp => ?_)) trivial
    obtain ⟨qz, ⟨s2, rz⟩, z0, sz, ⟨hg, rfl⟩ | ⟨hg, rfl⟩⟩ := hp
    · have hrl : rN A.2.1 A.2.2.1 < oN A.2.1 := rz.2.2.2.rnk_lt A.2.2.1 12 0 rfl
      refine hV.go rfl ?_
      refine topI (V := V) (lN_i _) ?_
      iterate 3 refine hV.go rfl ?_
      refine And.intro (fun _ => ?_) (fun hc => absurd (show nI 0 ≤ nI (rN A.2.1 A.2.2.1) from nI_le (by omega) (by omega)) hc)
      iterate 2 refine hV.go rfl ?_
      refine And.intro (callP_r (m_measure (po := fun v y => v = none ∧ QI y A ∧ RC y A s2 ∧ FR y A.2.1 ∧ y.1 30 0 0 = 0 ∧ Sm mdK w y) G qz rz ho (fun y a b c d e => ⟨rfl, a, b, c, d.trans z0, sz.tr (e.mono (by decide))⟩)) (by decide) (by decide) (fun r q hp => ?_)) trivial
      obtain ⟨rfl, qq, rq, fq, g0, sq⟩ := hp
      obtain ⟨d, hd⟩ := hg.dst
      have hd15 := rq.dlt ho hd
      have hcp := rq.2.2.2
      have hsym := mvs_sym rq.pm
      iterate 5 refine hV.go rfl ?_
      refine Exists.intro (rN A.2.1 A.2.2.1) (And.intro rfl (And.intro (show rN A.2.1 A.2.2.1 < 1500 by omega) ?_))
      refine topI (V := V) (fq _ d hg hd) ?_
      refine hV.go rfl ?_
      have key : ∀ q1, q1 = wI q 30 0 16 (nI d) → V 59 [some (vR 30), some (vI (nI (rN A.2.1 A.2.2.1))), none, none, none] [] q1 0 := by
        intro q1 hq1
        have sq1 : Sm [30] q q1 := by
          rw [hq1]
          exact Sm.wI (k := 30) Sm.rf (by decide)
        have e1 : ∀ j, j ≠ 16 → q1.1 30 0 j = q.1 30 0 j := fun j hj => by rw [hq1, wI_ne (by omega)]
        have r1 : RC q1 A s2 := ⟨⟨rq.1.1.cg (e1 1 (by decide)) (e1 2 (by decide)) (sq1 31 (by decide)).1 (sq1 32 (by decide)).1, trivial⟩, (e1 7 (by decide)).trans rq.2.1, rq.2.2.1.cg (sq1 34 (by decide)).1 (sq1 35 (by decide)).1, hcp⟩
        have ru : ∀ v, Sm [36, 37, 38, 41, 42, 43] q1 v → RC v A s2 := fun v hs => ⟨⟨r1.1.1.cg (by rw [(hs 30 (by decide)).1]) (by rw [(hs 30 (by decide)).1]) (hs 31 (by decide)).1 (hs 32 (by decide)).1, trivial⟩, by rw [(hs 30 (by decide)).1]; exact r1.2.1, r1.2.2.1.cg (hs 34 (by decide)).1 (hs 35 (by decide)).1, hcp⟩
        have fu : ∀ v, Sm [36, 37, 38, 41, 42, 43] q1 v → FR v A.2.1 := fun v hs f d hf hd => by
          rw [(hs 39 (by decide)).1, (sq1 39 (by decide)).1]
          exact fq f d hf hd
        have d16 : ∀ v, Sm [36, 37, 38, 41, 42, 43] q1 v → v.1 30 0 16 = nI d := fun v hs => by rw [(hs 30 (by decide)).1, hq1, wI_eq]
        have loop : ∀ c i : Nat, i + c = d → ∀ (v : Wd) (f : Nat → Nat) (pre : List Nat) (x3 x4 : Option AV), Sm [36, 37, 38, 41, 42, 43] q1 v → pre.length = i → (∀ j m, pre[j]? = some m → v.1 41 0 j = nI m) → Gen A.2.1 f → Dst (mvs A.2.1) f c → (∀ q, Gdy (mvs A.2.1) c f q → Gdy (mvs A.2.1) d A.2.2.1 (pre ++ q)) → V 61 [some (vR 30), some (vI (nI (rN A.2.1 f))), some (vI (nI i)), x3, x4] [] v 0 := by
          intro c
          induction c with
          | zero =>
            intro i hi v f pre x3 x4 hsv hpl hpm hgf hdf hgd
            iterate 3 refine hV.go rfl ?_
            refine topI (V := V) (d16 v hsv) ?_
            refine hV.go rfl ?_
            refine And.intro (fun _ => ?_) (fun hc => absurd (show nI d ≤ nI i from nI_le (by omega) (by omega)) hc)
            iterate 2 refine hV.go rfl ?_
            refine topI (V := V) (d16 v hsv) ?_
            refine hV.go rfl ?_
            have hG := hgd [] rfl
            rw [List.append_nil] at hG
            have g : ∀ j, j ≠ 16 → v.1 30 0 j = q.1 30 0 j := fun j hj => by rw [(hsv 30 (by decide)).1]; exact e1 j hj
            have g1 : ∀ k, k ∉ [30, 36, 37, 38, 41, 42, 43] → v.1 k = q.1 k := fun k hk => ((sq1.mono (by decide)).tr (hsv.mono (by decide)) k hk).1
            refine ⟨h1 ho d pre hg hd hG v ⟨(ru v hsv).1.1, qq.2.1.cg (g 5 (by decide)) (g1 33 (by decide)), ⟨?_, ?_, hpm⟩, qq.2.2.2.cg (g 7 (by decide)) (g 13 (by decide)) (g1 34 (by decide)) (g1 35 (by decide)) (g1 39 (by decide))⟩ ((g 0 (by decide)).trans g0) (sq.tr ((sq1.mono (by decide)).tr (hsv.mono (by decide)))), Nat.le_refl _⟩
            · show pre.length ≤ 1500
              omega
            · show v.1 30 0 16 = nI pre.length
              rw [d16 v hsv, hpl]
              congr 1
              omega
          | succ c ih =>
            intro i hi v f pre x3 x4 hsv hpl hpm hgf hdf hgd
            have hfr : rN A.2.1 f < oN A.2.1 := hcp.rnk_lt f 12 0 rfl
            have hc15 := rq.dlt ho hdf
            obtain ⟨m0, hm0, hdm0⟩ := hdf.near hsym
            obtain ⟨j0, hj0⟩ := List.getElem?_of_mem hm0
            have hj0l := (List.getElem?_eq_some_iff.mp hj0).1
            have hl10 : (mvs A.2.1).length ≤ 10 := by
              have := rq.1.1.2.1.1
              rw [mvs_len]
              omega
            iterate 3 refine hV.go rfl ?_
            refine topI (V := V) (d16 v hsv) ?_
            refine hV.go rfl ?_
            refine And.intro (fun hc => ?_) (fun _ => ?_)
            · have hc : nI d ≤ nI i := hc
              rw [nI_leI (by omega) (by omega)] at hc
              omega
            have srch : ∀ c2 j : Nat, j + c2 = (mvs A.2.1).length → ∀ (y : Wd) (m : Nat → Nat), Sm [36, 37, 38, 42, 43] v y → (mvs A.2.1)[j]? = some m → (∀ j' m', j' < j → (mvs A.2.1)[j']? = some m' → ¬ Dst (mvs A.2.1) (cmp f m') c) → V 79 [some (vR 30), some (vI (nI (rN A.2.1 f))), some (vI (nI i)), some (vI (nI j)), some (vI (nI (rN A.2.1 (cmp f m))))] [] y 0 := by
              intro c2
              induction c2 with
              | zero =>
                intro j hj y m hsy hm hno
                have := (List.getElem?_eq_some_iff.mp hm).1
                omega
              | succ c2 ih2 =>
                intro j hj y m hsy hm hno
                have hvy := hsv.tr (hsy.mono (by decide : ∀ k ∈ [36, 37, 38, 42, 43], k ∈ [36, 37, 38, 41, 42, 43]))
                have hgm : Gen A.2.1 (cmp f m) := Rn_gen rq.pm (n := c + 1 + 1) ⟨f, m, hdf.1, List.mem_of_getElem? hm, rfl⟩
                have hmr : rN A.2.1 (cmp f m) < oN A.2.1 := hcp.rnk_lt (cmp f m) 12 0 rfl
                obtain ⟨e, he⟩ := hgm.dst
                have he15 := rq.dlt ho he
                iterate 4 refine hV.go rfl ?_
                refine Exists.intro (rN A.2.1 (cmp f m)) (And.intro rfl (And.intro (show rN A.2.1 (cmp f m) < 1500 by omega) ?_))
                refine topI (V := V) (fu y hvy _ e hgm he) ?_
                iterate 4 refine hV.go rfl ?_
                refine Exists.intro (rN A.2.1 f) (And.intro rfl (And.intro (show rN A.2.1 f < 1500 by omega) ?_))
                refine topI (V := V) (fu y hvy _ (c + 1) hgf hdf) ?_
                iterate 2 refine hV.go rfl ?_
                refine topI (V := V) (nI_pred c) ?_
                refine hV.go rfl ?_
                refine And.intro (fun hc => ?_) (fun hc => ?_)
                · have hc : nI e = nI c := hc
                  rw [nI_eq (by omega) (by omega)] at hc
                  subst hc
                  iterate 5 refine hV.go rfl ?_
                  refine Exists.intro i (And.intro rfl (And.intro (show i < 1500 by omega) ?_))
                  iterate 4 refine hV.go rfl ?_
                  have := ih (i + 1) (by omega) (wI y 41 0 i (nI j)) (cmp f m) (pre ++ [j]) (some (vI (nI j))) (some (vI (nI (rN A.2.1 (cmp f m))))) (Sm.wI (k := 41) hvy (by decide)) (by rw [List.length_append, hpl]; rfl) (fun a b hab => by
                    by_cases ea : a < pre.length
                    · rw [List.getElem?_append_left ea] at hab
                      rw [wI_ne (by omega), (hsy 41 (by decide)).1]
                      exact hpm a b hab
                    · rw [List.getElem?_append_right (by omega)] at hab
                      have hb2 : a - pre.length < 1 := (List.getElem?_eq_some_iff.mp hab).1
                      rw [show a - pre.length = 0 by omega] at hab
                      cases hab
                      rw [show a = i by omega, wI_eq]) hgm he (fun q hq => by
                    rw [List.append_assoc]
                    exact hgd _ ⟨j, m, q, rfl, hm, he, hno, hq⟩)
                  rw [← nI_inc i] at this
                  exact this
                · have hc : ¬ nI e = nI c := hc
                  have hne : ¬ Dst (mvs A.2.1) (cmp f m) c := fun z => hc (by rw [he.uniq z])
                  have hjl : j + 1 < (mvs A.2.1).length := by
                    by_cases q : j0 < j + 1
                    · by_cases q2 : j0 = j
                      · subst q2
                        rw [hm] at hj0
                        cases hj0
                        exact (hne hdm0).elim
                      · exact (hno j0 m0 (by omega) hj0 hdm0).elim
                    · omega
                  obtain ⟨m2, hm2⟩ : ∃ m2, (mvs A.2.1)[j + 1]? = some m2 := ⟨_, List.getElem?_eq_getElem hjl⟩
                  have hyv := ru y hvy
                  iterate 4 refine hV.go rfl ?_
                  refine topI (V := V) (nI_inc j) ?_
                  refine hV.go rfl ?_
                  refine And.intro (callP_r (m_moved (po := fun v z => v = some (vI (nI (rN A.2.1 (cmp f m2)))) ∧ Sm [36, 37, 38, 42, 43] y z) G hyv hgf ho hm2 (fun z a => ⟨rfl, a⟩)) (by decide) (by decide) (fun r y2 hp => ?_)) trivial
                  obtain ⟨rfl, hy2⟩ := hp
                  iterate 2 refine hV.go rfl ?_
                  have := ih2 (j + 1) (by omega) y2 m2 (hsy.tr hy2) hm2 (fun j' m' hj' hm' => by
                    by_cases q : j' = j
                    · subst q
                      rw [hm] at hm'
                      cases hm'
                      exact hne
                    · exact hno j' m' (by omega) hm')
                  rw [← nI_inc j] at this
                  exact this
            obtain ⟨m1, hm1⟩ : ∃ m1, (mvs A.2.1)[0]? = some m1 := ⟨_, List.getElem?_eq_getElem (show 0 < (mvs A.2.1).length by omega)⟩
            iterate 6 refine hV.go rfl ?_
            refine And.intro (callP_r (m_moved (i := 0) (po := fun vr z => vr = some (vI (nI (rN A.2.1 (cmp f m1)))) ∧ Sm [36, 37, 38, 42, 43] v z) G (ru v hsv) hgf ho hm1 (fun z a => ⟨rfl, a⟩)) (by decide) (by decide) (fun r y hp => ?_)) trivial
            obtain ⟨rfl, hy⟩ := hp
            refine hV.go rfl ?_
            exact srch (mvs A.2.1).length 0 (by omega) y m1 hy hm1 (fun j' m' hj' => by omega)
        iterate 2 refine hV.go rfl ?_
        exact loop d 0 (by omega) q1 A.2.2.1 [] none none Sm.rf rfl (fun j m h => by cases h) hg hd (fun q hq => hq)
      exact key _ rfl
    · iterate 3 refine hV.go rfl ?_
      refine hV.go rfl ?_
      refine And.intro (fun hc => absurd (show (0 : Int32) ≤ (-1 : Int64).toInt32 from hc) (by decide)) (fun _ => ?_)
      iterate 3 refine hV.go rfl ?_
      refine And.intro (callP_r (m_fail G) (by decide) (by decide) (fun r y hp => ?_)) trivial
      obtain ⟨rfl, rfl⟩ := hp
      refine hV.go rfl ?_
      exact ⟨h2 ho hg _ (qz.th _) wI_eq (sz.tr (Sm.wI (k := 30) Sm.rf (by decide))), Nat.le_refl _⟩
  · refine hV.go rfl ?_
    refine And.intro (fun _ => ?_) (fun hc => absurd rfl hc)
    iterate 4 refine hV.go rfl ?_
    refine topI (V := V) (show (wI u 30 0 0 1).1 30 0 0 = 1 from wI_eq) ?_
    refine hV.go rfl ?_
    refine And.intro (fun hc => absurd (show (1 : Int32) ≤ 0 from hc) (by decide)) (fun _ => ?_)
    repeat refine hV.go rfl ?_
    exact ⟨h3 ho _ (hq.th _) wI_eq ((hs.mono (by decide)).tr (Sm.wI (k := 30) Sm.rf (by decide))), Nat.le_refl _⟩
end
