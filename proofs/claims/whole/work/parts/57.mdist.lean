/-! the reference: diameter, atDistance, solve -/
theorem RC.pm {w : Wd} {A : AS} {s : CS} (h : RC w A s) : ∀ t ∈ A.2.1, Pm t := fun t ht => (h.1.1.2.1.2 t ht).1
theorem RC.dlt {w : Wd} {A : AS} {s : CS} (h : RC w A s) (ho : oN A.2.1 ≤ 1500) {f : Nat → Nat} {d : Nat} (hd : Dst (mvs A.2.1) f d) : d < 1500 := by
  obtain ⟨L, a, b, c⟩ := hd.path
  have := h.2.2.2.few h.pm b (fun g hg => by
    obtain ⟨i, -, h1⟩ := c g hg
    exact Rn_gen h.pm h1.1)
  omega
theorem Gen.dst {ts : List (Nat → Nat)} {f : Nat → Nat} (h : Gen ts f) : ∃ d, Dst (mvs ts) f d := by
  obtain ⟨n, hn⟩ := Gen_rn h
  obtain ⟨d, -, hd⟩ := Dst.ex hn
  exact ⟨d, hd⟩
theorem FR.at {u : Wd} {A : AS} {s : CS} (h : FR u A.2.1) (hr : RC u A s) (ho : oN A.2.1 ≤ 1500) {r : Nat} (hlt : r < oN A.2.1) : ∃ f d, Gen A.2.1 f ∧ rN A.2.1 f = r ∧ Dst (mvs A.2.1) f d ∧ d < 1500 ∧ u.1 39 0 r = nI d := by
  obtain ⟨f, hf, rfl⟩ := hr.2.2.2.onto hr.pm hlt
  obtain ⟨d, hd⟩ := hf.dst
  exact ⟨f, d, hf, rfl, hd, hr.dlt ho hd, h f d hf hd⟩
section
variable {l : Launch} {E : En}
theorem m_diameter {w : Wd} {A : AS} {po : Option AV → Wd → Prop} (G : GM l E) (hw : QI w A) (h1 : oN A.2.1 ≤ 1500 → ∀ D, IsDia A.2.1 D → ∀ u, QI u A → u.1 30 0 0 = 0 → Sm mdK w u → po (some (vI (nI D))) u) (h2 : ¬ oN A.2.1 ≤ 1500 → ∀ u, QI u A → u.1 30 0 0 = 1 → Sm mdK w u → po (some (vI 0)) u) : Ctr l E 7 0 mX5_diameter [vR 30] w po noX := by
  refine Ctr.of (tw := []) G.1 G.2 oX5_ok pgX5_diameter rfl (by decide) rfl rfl (Nat.le_of_ble_eq_true rfl) ?_
  intro V hV
  iterate 3 refine hV.go rfl ?_
  refine And.intro (callP_r (m_areFew (po := fun v z => QI z A ∧ (∃ s, RC z A s) ∧ Sm frK w z ∧ ((oN A.2.1 ≤ 1500 ∧ v = some (vI 1)) ∨ (¬ oN A.2.1 ≤ 1500 ∧ v = some (vI 0)))) G hw (fun h u s a b c d => ⟨b, ⟨s, a⟩, d, Or.inl ⟨h, rfl⟩⟩) (fun h u s a b c d => ⟨b, ⟨s, a⟩, d, Or.inr ⟨h, rfl⟩⟩)) (by decide) (by decide) (fun r u hp => ?_)) trivial
  obtain ⟨hq, ⟨s, hr⟩, hs, ⟨ho, rfl⟩ | ⟨ho, rfl⟩⟩ := hp
  · refine hV.go rfl ?_
    refine And.intro (fun hc => absurd (show (1 : Int32) = 0 from hc) (by decide)) (fun _ => ?_)
    iterate 5 refine hV.go rfl ?_
    refine topI (V := V) (show (wI u 30 0 0 0).1 30 0 0 = 0 from wI_eq) ?_
    refine hV.go rfl ?_
    refine And.intro (fun _ => ?_) (fun hc => absurd (show (0 : Int32) ≤ 0 by decide) hc)
    iterate 2 refine hV.go rfl ?_
    refine And.intro (callP_r (m_measure (po := fun v z => v = none ∧ QI z A ∧ RC z A s ∧ FR z A.2.1 ∧ z.1 30 0 0 = 0 ∧ Sm mdK w z) G (hq.th 0) (hr.th 0) ho (fun z a b c d e => ⟨rfl, a, b, c, d.trans wI_eq, ((hs.mono (by decide)).tr (Sm.wI (k := 30) Sm.rf (by decide))).tr (e.mono (by decide))⟩)) (by decide) (by decide) (fun r z hp => ?_)) trivial
    obtain ⟨rfl, qz, rz, fz, z0, sz⟩ := hp
    have hcp := rz.2.2.2
    have loop : ∀ c i : Nat, i + c = oN A.2.1 → ∀ M, (∃ f, Gen A.2.1 f ∧ Dst (mvs A.2.1) f M) → (∀ f d, Gen A.2.1 f → rN A.2.1 f < i → Dst (mvs A.2.1) f d → d ≤ M) → V 33 [some (vR 30), some (vI (nI M)), some (vI (nI i))] [] z 0 := by
      intro c
      induction c with
      | zero =>
        intro i hi M hM hall
        iterate 2 refine hV.go rfl ?_
        refine topJ (V := V) (nI_l (by omega)) ?_
        iterate 3 refine hV.go rfl ?_
        refine And.intro (callP_v (m_orderFrom (k := 0) G rz (by decide)) (by decide) (by decide) ?_) trivial
        iterate 2 refine hV.go rfl ?_
        refine And.intro (fun _ => ?_) (fun hc => ?_)
        · repeat refine hV.go rfl ?_
          refine ⟨h1 ho M ⟨hM, fun f d hd => ?_⟩ z qz z0 sz, Nat.le_refl _⟩
          have hg := Rn_gen rz.pm hd.1
          exact hall f d hg (by have : rN A.2.1 f < oN A.2.1 := hcp.rnk_lt f 12 0 rfl; omega) hd
        · refine absurd ((lg_cmp_ge _ _).mpr ?_) hc
          show lN (oN A.2.1) ≤ lN i
          rw [pk_lLE (by omega) (by omega)]
          omega
      | succ c ih =>
        intro i hi M hM hall
        obtain ⟨f, d, hf, hfr, hd, hd15, hfar⟩ := fz.at rz ho (show i < oN A.2.1 by omega)
        obtain ⟨f0, hf0, hd0⟩ := id hM
        have hM15 := rz.dlt ho hd0
        iterate 2 refine hV.go rfl ?_
        refine topJ (V := V) (nI_l (by omega)) ?_
        iterate 3 refine hV.go rfl ?_
        refine And.intro (callP_v (m_orderFrom (k := 0) G rz (by decide)) (by decide) (by decide) ?_) trivial
        iterate 2 refine hV.go rfl ?_
        refine And.intro (fun hc => ?_) (fun _ => ?_)
        · have hc : lN (oN A.2.1) ≤ lN i := (lg_cmp_ge _ _).mp hc
          rw [pk_lLE (by omega) (by omega)] at hc
          omega
        iterate 4 refine hV.go rfl ?_
        refine Exists.intro i (And.intro rfl (And.intro (show i < 1500 by omega) ?_))
        refine topI (V := V) hfar ?_
        iterate 2 refine hV.go rfl ?_
        have nx : ∀ M', (∃ f, Gen A.2.1 f ∧ Dst (mvs A.2.1) f M') → M ≤ M' → d ≤ M' → V 64 [some (vR 30), some (vI (nI M)), some (vI (nI i))] [vI (nI M')] z 0 := by
          intro M' hM' hle hle2
          iterate 3 refine hV.go rfl ?_
          have := ih (i + 1) (by omega) M' hM' (fun g e hg hlt he => by
            by_cases q : rN A.2.1 g < i
            · have := hall g e hg q he
              omega
            · have eg : g = f := hcp.rnk_inj rz.gr hg hf 12 0 rfl (fun j hj => by omega) (show rN A.2.1 g = rN A.2.1 f by omega)
              rw [eg] at he
              rw [he.uniq hd]
              exact hle2)
          rw [← nI_inc i] at this
          exact this
        refine And.intro (fun hc => ?_) (fun hc => ?_)
        · have hc : nI d ≤ nI M := hc
          rw [nI_leI (by omega) (by omega)] at hc
          refine hV.go rfl ?_
          exact nx M hM (Nat.le_refl _) hc
        · have hc : ¬ nI d ≤ nI M := hc
          rw [nI_leI (by omega) (by omega)] at hc
          iterate 4 refine hV.go rfl ?_
          refine Exists.intro i (And.intro rfl (And.intro (show i < 1500 by omega) ?_))
          refine topI (V := V) hfar ?_
          refine hV.go rfl ?_
          exact nx d ⟨f, hf, hd⟩ (by omega) (Nat.le_refl _)
    iterate 4 refine hV.go rfl ?_
    exact loop (oN A.2.1) 0 (by omega) 0 ⟨idp, Gen.id _, rfl, fun n hn => by omega⟩ (fun f d _ hlt => by omega)
  · refine hV.go rfl ?_
    refine And.intro (fun _ => ?_) (fun hc => absurd rfl hc)
    iterate 4 refine hV.go rfl ?_
    refine topI (V := V) (show (wI u 30 0 0 1).1 30 0 0 = 1 from wI_eq) ?_
    refine hV.go rfl ?_
    refine And.intro (fun hc => absurd (show (1 : Int32) ≤ 0 from hc) (by decide)) (fun _ => ?_)
    repeat refine hV.go rfl ?_
    exact ⟨h2 ho _ (hq.th _) wI_eq ((hs.mono (by decide)).tr (Sm.wI (k := 30) Sm.rf (by decide))), Nat.le_refl _⟩
theorem m_atDistance {w : Wd} {A : AS} {x : Int32} {po : Option AV → Wd → Prop} (G : GM l E) (hw : QI w A) (h1 : oN A.2.1 ≤ 1500 → ∀ u, QI u A → u.1 30 0 0 = 0 → Sm mdK w u → po (some (vI (nI (cntD A.2.1 x)))) u) (h2 : ¬ oN A.2.1 ≤ 1500 → ∀ u, QI u A → u.1 30 0 0 = 1 → Sm mdK w u → po (some (vI 0)) u) : Ctr l E 7 0 mX5_atDistance [vR 30, vI x] w po noX := by
  refine Ctr.of (tw := []) G.1 G.2 oX5_ok pgX5_atDistance rfl (by decide) rfl rfl (Nat.le_of_ble_eq_true rfl) ?_
  intro V hV
  iterate 3 refine hV.go rfl ?_
  refine And.intro (callP_r (m_areFew (po := fun v z => QI z A ∧ (∃ s, RC z A s) ∧ Sm frK w z ∧ ((oN A.2.1 ≤ 1500 ∧ v = some (vI 1)) ∨ (¬ oN A.2.1 ≤ 1500 ∧ v = some (vI 0)))) G hw (fun h u s a b c d => ⟨b, ⟨s, a⟩, d, Or.inl ⟨h, rfl⟩⟩) (fun h u s a b c d => ⟨b, ⟨s, a⟩, d, Or.inr ⟨h, rfl⟩⟩)) (by decide) (by decide) (fun r u hp => ?_)) trivial
  obtain ⟨hq, ⟨s, hr⟩, hs, ⟨ho, rfl⟩ | ⟨ho, rfl⟩⟩ := hp
  · refine hV.go rfl ?_
    refine And.intro (fun hc => absurd (show (1 : Int32) = 0 from hc) (by decide)) (fun _ => ?_)
    iterate 5 refine hV.go rfl ?_
    refine topI (V := V) (show (wI u 30 0 0 0).1 30 0 0 = 0 from wI_eq) ?_
    refine hV.go rfl ?_
    refine And.intro (fun _ => ?_) (fun hc => absurd (show (0 : Int32) ≤ 0 by decide) hc)
    iterate 2 refine hV.go rfl ?_
    refine And.intro (callP_r (m_measure (po := fun v z => v = none ∧ QI z A ∧ RC z A s ∧ FR z A.2.1 ∧ z.1 30 0 0 = 0 ∧ Sm mdK w z) G (hq.th 0) (hr.th 0) ho (fun z a b c d e => ⟨rfl, a, b, c, d.trans wI_eq, ((hs.mono (by decide)).tr (Sm.wI (k := 30) Sm.rf (by decide))).tr (e.mono (by decide))⟩)) (by decide) (by decide) (fun r z hp => ?_)) trivial
    obtain ⟨rfl, qz, rz, fz, z0, sz⟩ := hp
    have hcp := rz.2.2.2
    generalize hqd : (fun r => cd (∃ f d, Gen A.2.1 f ∧ rN A.2.1 f = r ∧ Dst (mvs A.2.1) f d ∧ nI d = x)) = qf
    have hcnt : cntD A.2.1 x = cn qf (oN A.2.1) := by
      rw [← hqd]
      rfl
    have loop : ∀ c i : Nat, i + c = oN A.2.1 → V 33 [some (vR 30), some (vI x), some (vI (nI (cn qf i))), some (vI (nI i))] [] z 0 := by
      intro c
      induction c with
      | zero =>
        intro i hi
        iterate 2 refine hV.go rfl ?_
        refine topJ (V := V) (nI_l (by omega)) ?_
        iterate 3 refine hV.go rfl ?_
        refine And.intro (callP_v (m_orderFrom (k := 0) G rz (by decide)) (by decide) (by decide) ?_) trivial
        iterate 2 refine hV.go rfl ?_
        refine And.intro (fun _ => ?_) (fun hc => ?_)
        · repeat refine hV.go rfl ?_
          have := h1 ho z qz z0 sz
          rw [hcnt, show oN A.2.1 = i by omega] at this
          exact ⟨this, Nat.le_refl _⟩
        · refine absurd ((lg_cmp_ge _ _).mpr ?_) hc
          show lN (oN A.2.1) ≤ lN i
          rw [pk_lLE (by omega) (by omega)]
          omega
      | succ c ih =>
        intro i hi
        obtain ⟨f, d, hf, hfr, hd, hd15, hfar⟩ := fz.at rz ho (show i < oN A.2.1 by omega)
        have hqi : qf i = true ↔ nI d = x := by
          rw [← hqd]
          show cd _ = true ↔ _
          rw [cd_t]
          constructor
          · rintro ⟨g, e, hg, hgr, he, hx⟩
            have eg : g = f := hcp.rnk_inj rz.gr hg hf 12 0 rfl (fun j hj => by omega) (show rN A.2.1 g = rN A.2.1 f by omega)
            rw [eg] at he
            rw [hd.uniq he]
            exact hx
          · exact fun hx => ⟨f, d, hf, hfr, hd, hx⟩
        iterate 2 refine hV.go rfl ?_
        refine topJ (V := V) (nI_l (by omega)) ?_
        iterate 3 refine hV.go rfl ?_
        refine And.intro (callP_v (m_orderFrom (k := 0) G rz (by decide)) (by decide) (by decide) ?_) trivial
        iterate 2 refine hV.go rfl ?_
        refine And.intro (fun hc => ?_) (fun _ => ?_)
        · have hc : lN (oN A.2.1) ≤ lN i := (lg_cmp_ge _ _).mp hc
          rw [pk_lLE (by omega) (by omega)] at hc
          omega
        iterate 4 refine hV.go rfl ?_
        refine Exists.intro i (And.intro rfl (And.intro (show i < 1500 by omega) ?_))
        refine topI (V := V) hfar ?_
        iterate 2 refine hV.go rfl ?_
        refine And.intro (fun hc => ?_) (fun hc => ?_)
        · have hc : ¬ nI d = x := hc
          iterate 4 refine hV.go rfl ?_
          have := ih (i + 1) (by omega)
          rw [cn_f (fun e => hc (hqi.mp e)), ← nI_inc i] at this
          exact this
        · have hc : nI d = x := Classical.not_not.mp hc
          iterate 3 refine hV.go rfl ?_
          refine topI (V := V) (nI_1 _) ?_
          iterate 4 refine hV.go rfl ?_
          have := ih (i + 1) (by omega)
          rw [cn_t (hqi.mpr hc), ← nI_inc i] at this
          exact this
    iterate 4 refine hV.go rfl ?_
    exact loop (oN A.2.1) 0 (by omega)
  · refine hV.go rfl ?_
    refine And.intro (fun _ => ?_) (fun hc => absurd rfl hc)
    iterate 4 refine hV.go rfl ?_
    refine topI (V := V) (show (wI u 30 0 0 1).1 30 0 0 = 1 from wI_eq) ?_
    refine hV.go rfl ?_
    refine And.intro (fun hc => absurd (show (1 : Int32) ≤ 0 from hc) (by decide)) (fun _ => ?_)
    repeat refine hV.go rfl ?_
    exact ⟨h2 ho _ (hq.th _) wI_eq ((hs.mono (by decide)).tr (Sm.wI (k := 30) Sm.rf (by decide))), Nat.le_refl _⟩
end
