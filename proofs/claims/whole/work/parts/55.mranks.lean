/-! the reference: reachable, rank, unrank, moved -/
theorem RC.th {w : Wd} {A : AS} {s : CS} (h : RC w A s) (x : Int32) : RC (wI w 30 0 0 x) A s := by
  have hs : Sm [30] w (wI w 30 0 0 x) := Sm.wI (k := 30) Sm.rf (by decide)
  exact ⟨⟨h.1.1.cg (wI_ne (by decide)) (wI_ne (by decide)) (hs 31 (by decide)).1 (hs 32 (by decide)).1, trivial⟩, by rw [wI_ne (by decide)]; exact h.2.1, h.2.2.1.cg (hs 34 (by decide)).1 (hs 35 (by decide)).1, h.2.2.2⟩
section
variable {l : Launch} {E : En}
theorem m_rankOf {w : Wd} {A : AS} {f : Nat → Nat} {po : Option AV → Wd → Prop} (G : GM l E) (hw : QI w A) (h37 : ∀ i, i < A.1 → w.1 37 0 i = nI (f i)) (hf : Lw A.1 f) (h1 : ∀ z s, RC z A s → QI z A → z.1 30 0 0 = w.1 30 0 0 → Sm mdK w z → Gen A.2.1 f → po (some (vJ (lN (rN A.2.1 f)))) z) (h2 : ∀ z s, RC z A s → QI z A → z.1 30 0 0 = w.1 30 0 0 → Sm mdK w z → ¬ Gen A.2.1 f → po (some (vJ (-1))) z) : Ctr l E 4 0 mX5_rankOf [vR 30] w po noX := by
  refine m_rankG (Q := fun u => QI u A ∧ u.1 30 0 0 = w.1 30 0 0 ∧ Sm frK w u) G (m_rows G hw) (fun u hu i hi => ?_) hf (fun u z s hu hr hs hg => ?_) (fun u z s hu hr hs hg => ?_)
  · rw [(hu.2.2 37 (by decide)).1]
    exact h37 i hi
  · exact h1 z s hr (hu.1.wk (hs.mono (by decide))) (by rw [(hs 30 (by decide)).1]; exact hu.2.1) ((hu.2.2.mono (by decide)).tr (hs.mono (by decide))) hg
  · exact h2 z s hr (hu.1.wk (hs.mono (by decide))) (by rw [(hs 30 (by decide)).1]; exact hu.2.1) ((hu.2.2.mono (by decide)).tr (hs.mono (by decide))) hg
theorem m_rankR {w : Wd} {A : AS} {s : CS} {f : Nat → Nat} {po : Option AV → Wd → Prop} (G : GM l E) (hr : RC w A s) (h37 : ∀ i, i < A.1 → w.1 37 0 i = nI (f i)) (hf : Gen A.2.1 f) (h1 : ∀ z, Sm [36, 38, 42, 43] w z → po (some (vJ (lN (rN A.2.1 f)))) z) : Ctr l E 4 0 mX5_rankOf [vR 30] w po noX := by
  refine m_rankG (Q := fun u => u = w) G (m_rows1 G hr.2.1 ⟨rfl, s, hr, rfl⟩) (fun u hu i hi => ?_) (hr.lw hf) (fun u z s hu _ hs hg => ?_) (fun u z s hu _ hs hg => (hg hf).elim)
  · rw [hu]
    exact h37 i hi
  · exact h1 z (hu ▸ hs)
theorem lN_nn {n : Nat} (h : n < 2 ^ 63) : ¬ lN n < 0 := fun e => by
  have e : lN n < lN 0 := e
  rw [pk_lLT h (by decide)] at e
  omega
theorem m_reachable {w : Wd} {A : AS} {po : Option AV → Wd → Prop} (G : GM l E) (hw : QI w A) (hpo : ∀ u, QI u A → u.1 30 0 0 = 0 → Sm mdK w u → po (some (vI (b2i (cd (Gen A.2.1 A.2.2.1))))) u) : Ctr l E 5 0 mX5_reachable [vR 30] w po noX := by
  refine Ctr.of (tw := []) G.1 G.2 oX5_ok pgX5_reachable rfl (by decide) rfl rfl (Nat.le_of_ble_eq_true rfl) ?_
  intro V hV
  have hq := hw.th 0
  have s0 : Sm mdK w (wI w 30 0 0 0) := Sm.wI (k := 30) Sm.rf (by decide)
  iterate 5 refine hV.go rfl ?_
  refine And.intro (callP_r (m_takeTable (tb := A.2.2.1) (po := fun v z => v = none ∧ (∀ s, s < A.1 → z.1 37 0 s = nI (A.2.2.1 s)) ∧ Sm [37] (wI w 30 0 0 0) z) G hq.1.1.2 hq.1.2.2.2.2.2.2 (fun u a b => ⟨rfl, a, b⟩)) (by decide) (by decide) (fun r u hp => ?_)) trivial
  obtain ⟨rfl, h37, hs⟩ := hp
  have hqu : QI u A := hq.wk (hs.mono (by decide))
  iterate 2 refine hV.go rfl ?_
  refine And.intro (callP_r (m_rankOf (po := fun v z => QI z A ∧ z.1 30 0 0 = 0 ∧ Sm mdK w z ∧ ((Gen A.2.1 A.2.2.1 ∧ ∃ n, n < 2 ^ 62 ∧ v = some (vJ (lN n))) ∨ (¬ Gen A.2.1 A.2.2.1 ∧ v = some (vJ (-1))))) G hqu h37 hw.1.2.2.1 (fun z s hr hqz h0 hs2 hg => ⟨hqz, ?_, (s0.tr (hs.mono (by decide))).tr hs2, Or.inl ⟨hg, _, ?_, rfl⟩⟩) (fun z s hr hqz h0 hs2 hg => ⟨hqz, ?_, (s0.tr (hs.mono (by decide))).tr hs2, Or.inr ⟨hg, rfl⟩⟩)) (by decide) (by decide) (fun r z hp => ?_)) trivial
  · rw [h0, (hs 30 (by decide)).1]
    exact wI_eq
  · have h1 := hr.2.2.2.rnk_lt A.2.2.1 12 0 rfl
    have h2 := hr.2.2.2.ord_lt (i := 0) (by decide)
    exact Nat.lt_trans h1 h2
  · rw [h0, (hs 30 (by decide)).1]
    exact wI_eq
  · obtain ⟨h1, h2, h3, ⟨hg, n, hn, rfl⟩ | ⟨hg, rfl⟩⟩ := hp
    · iterate 3 refine hV.go rfl ?_
      refine And.intro (fun hc => absurd ((lg_cmp_lt _ _).mp hc) (lN_nn (by omega))) (fun _ => ?_)
      repeat refine hV.go rfl ?_
      have := hpo z h1 h2 h3
      rw [cd_t.mpr hg] at this
      exact ⟨Or.inr rfl, this, Nat.le_refl _⟩
    · iterate 3 refine hV.go rfl ?_
      refine And.intro (fun _ => ?_) (fun hc => absurd ((lg_cmp_lt _ _).mpr (show (-1 : Int64) < 0 by decide)) hc)
      repeat refine hV.go rfl ?_
      have := hpo z h1 h2 h3
      rw [cd_f.mpr hg] at this
      exact ⟨Or.inl rfl, this, Nat.le_refl _⟩
theorem m_rank {w : Wd} {A : AS} {po : Option AV → Wd → Prop} (G : GM l E) (hw : QI w A) (h1 : Gen A.2.1 A.2.2.1 → ∀ u, QI u A → u.1 30 0 0 = 0 → Sm mdK w u → po (some (vJ (lN (rnk (Gen A.2.1) A.2.2.1 12 0)))) u) (h2 : ¬ Gen A.2.1 A.2.2.1 → ∀ u, QI u A → u.1 30 0 0 = 1 → Sm mdK w u → po (some (vJ 0)) u) : Ctr l E 5 0 mX5_rank [vR 30] w po noX := by
  refine Ctr.of (tw := []) G.1 G.2 oX5_ok pgX5_rank rfl (by decide) rfl rfl (Nat.le_of_ble_eq_true rfl) ?_
  intro V hV
  iterate 2 refine hV.go rfl ?_
  refine And.intro (callP_r (m_takeTable (tb := A.2.2.1) (po := fun v z => v = none ∧ (∀ s, s < A.1 → z.1 37 0 s = nI (A.2.2.1 s)) ∧ Sm [37] w z) G hw.1.1.2 hw.1.2.2.2.2.2.2 (fun u a b => ⟨rfl, a, b⟩)) (by decide) (by decide) (fun r u hp => ?_)) trivial
  obtain ⟨rfl, h37, hs⟩ := hp
  have hqu : QI u A := hw.wk (hs.mono (by decide))
  iterate 2 refine hV.go rfl ?_
  refine And.intro (callP_r (m_rankOf (po := fun v z => QI z A ∧ Sm mdK w z ∧ ((Gen A.2.1 A.2.2.1 ∧ ∃ n, n < 2 ^ 62 ∧ n = rN A.2.1 A.2.2.1 ∧ v = some (vJ (lN n))) ∨ (¬ Gen A.2.1 A.2.2.1 ∧ v = some (vJ (-1))))) G hqu h37 hw.1.2.2.1 (fun z s hr hqz h0 hs2 hg => ⟨hqz, (hs.mono (by decide)).tr hs2, Or.inl ⟨hg, _, ?_, rfl, rfl⟩⟩) (fun z s hr hqz h0 hs2 hg => ⟨hqz, (hs.mono (by decide)).tr hs2, Or.inr ⟨hg, rfl⟩⟩)) (by decide) (by decide) (fun r z hp => ?_)) trivial
  · have h1 := hr.2.2.2.rnk_lt A.2.2.1 12 0 rfl
    have h2 := hr.2.2.2.ord_lt (i := 0) (by decide)
    exact Nat.lt_trans h1 h2
  · obtain ⟨q1, q3, ⟨hg, n, hn, en, rfl⟩ | ⟨hg, rfl⟩⟩ := hp
    · iterate 5 refine hV.go rfl ?_
      refine hV.go rfl ?_
      refine And.intro (fun _ => ?_) (fun hc => absurd ((lg_cmp_ge _ _).mpr (Int64.not_lt.mp (lN_nn (by omega)))) hc)
      iterate 4 refine hV.go rfl ?_
      refine topI (V := V) (show (wI z 30 0 0 0).1 30 0 0 = 0 from wI_eq) ?_
      refine hV.go rfl ?_
      refine And.intro (fun _ => ?_) (fun hc => absurd (show (0 : Int32) ≤ 0 by decide) hc)
      repeat refine hV.go rfl ?_
      rw [en]
      exact ⟨h1 hg _ (q1.th _) wI_eq (q3.tr (Sm.wI (k := 30) Sm.rf (by decide))), Nat.le_refl _⟩
    · iterate 5 refine hV.go rfl ?_
      refine hV.go rfl ?_
      refine And.intro (fun hc => absurd ((lg_cmp_ge _ _).mp hc) (show ¬ (0 : Int64) ≤ -1 by decide)) (fun _ => ?_)
      iterate 5 refine hV.go rfl ?_
      refine topI (V := V) (show (wI z 30 0 0 1).1 30 0 0 = 1 from wI_eq) ?_
      refine hV.go rfl ?_
      refine And.intro (fun hc => absurd (show (1 : Int32) ≤ 0 from hc) (by decide)) (fun _ => ?_)
      repeat refine hV.go rfl ?_
      exact ⟨h2 hg _ (q1.th _) wI_eq (q3.tr (Sm.wI (k := 30) Sm.rf (by decide))), Nat.le_refl _⟩
theorem m_unrank {w : Wd} {A : AS} {x : Int64} {po : Option AV → Wd → Prop} (G : GM l E) (hw : QI w A) (h1 : ∀ f, Gen A.2.1 f → x = lN (rN A.2.1 f) → ∀ u, QI u (A.1, A.2.1, f, A.2.2.2.1, A.2.2.2.2) → u.1 30 0 0 = 0 → Sm mdK w u → po none u) (h2 : (x < 0 ∨ lN (oN A.2.1) ≤ x) → ∀ u, QI u A → u.1 30 0 0 = 1 → Sm mdK w u → po none u) : Ctr l E 4 0 mX5_unrank [vR 30, vJ x] w po noX := by
  refine Ctr.of (tw := []) G.1 G.2 oX5_ok pgX5_unrank rfl (by decide) rfl rfl (Nat.le_of_ble_eq_true rfl) ?_
  intro V hV
  iterate 2 refine hV.go rfl ?_
  refine And.intro (callP_r (m_rows G hw) (by decide) (by decide) (fun r u hp => ?_)) trivial
  obtain ⟨rfl, s, hr, hqi, h0, hs⟩ := hp
  have hsm : Sm mdK w u := hs.mono (by decide)
  have bad : (x < 0 ∨ lN (oN A.2.1) ≤ x) → V 21 [some (vR 30), some (vJ x), none, none] [vR 30] u 0 := by
    intro hb
    iterate 5 refine hV.go rfl ?_
    refine topI (V := V) (show (wI u 30 0 0 1).1 30 0 0 = 1 from wI_eq) ?_
    refine hV.go rfl ?_
    refine And.intro (fun hc => absurd (show (1 : Int32) ≤ 0 from hc) (by decide)) (fun _ => ?_)
    repeat refine hV.go rfl ?_
    exact ⟨h2 hb _ (hqi.th _) wI_eq (hsm.tr (Sm.wI (k := 30) Sm.rf (by decide))), Nat.le_refl _⟩
  iterate 5 refine hV.go rfl ?_
  refine And.intro (fun hc => bad (Or.inl ((lg_cmp_lt _ _).mp hc))) (fun hc => ?_)
  have hnn : ¬ x < 0 := fun z => hc ((lg_cmp_lt _ _).mpr z)
  iterate 4 refine hV.go rfl ?_
  refine And.intro (callP_v (m_orderFrom (k := 0) G hr (by decide)) (by decide) (by decide) ?_) trivial
  iterate 2 refine hV.go rfl ?_
  refine And.intro (fun hc => ?_) (fun hc => ?_)
  · have hlt : x < lN (oN A.2.1) := (lg_cmp_lt _ _).mp hc
    obtain ⟨r, hr63, rfl⟩ := pk_lOf hnn
    have ho := hr.2.2.2.ord_lt (i := 0) (by decide)
    rw [pk_lLT hr63 (by show ord (Gen A.2.1) (12 - 0) 0 < _; omega)] at hlt
    obtain ⟨f, hf, rfl⟩ := hr.2.2.2.onto (fun t ht => (hr.1.1.2.1.2 t ht).1) hlt
    have hfl := hr.lw hf
    have n1 := hr.1.1.1
    have hr0 := hr.th 0
    iterate 4 refine hV.go rfl ?_
    refine topI (V := V) (show (wI u 30 0 0 0).1 30 0 0 = 0 from wI_eq) ?_
    refine hV.go rfl ?_
    refine And.intro (fun _ => ?_) (fun hc => absurd (show (0 : Int32) ≤ 0 by decide) hc)
    iterate 3 refine hV.go rfl ?_
    refine And.intro (callP_r (m_find (po := fun v z => v = none ∧ Rw z 43 0 f ∧ Sm [42, 43] (wI u 30 0 0 0) z) G hr0 hf (fun z a b => ⟨rfl, a, b⟩)) (by decide) (by decide) (fun r z hp => ?_)) trivial
    obtain ⟨rfl, h43, hsz⟩ := hp
    have hqz : QI z A := (hqi.th 0).wk (hsz.mono (by decide))
    have htl := hqz.1.2.2.1
    have loop : ∀ c i : Nat, i + c = A.1 → ∀ y, Sm [32] z y → (∀ p, p < A.1 → y.1 32 0 p = nI (if p < i then f p else A.2.2.1 p)) → V 44 [some (vR 30), some (vJ (lN (rN A.2.1 f))), none, some (vI (nI i))] [] y 0 := by
      intro c
      induction c with
      | zero =>
        intro i hi y hy hz
        iterate 3 refine hV.go rfl ?_
        refine topI (V := V) (show y.1 30 0 1 = nI A.1 by rw [(hy 30 (by decide)).1]; exact hqz.1.2.2.2.1) ?_
        refine hV.go rfl ?_
        refine And.intro (fun _ => ?_) (fun hc => absurd (show nI A.1 ≤ nI i from nI_le (by omega) (by omega)) hc)
        refine hV.go rfl ?_
        refine ⟨h1 f hf rfl y (hqz.tbl hy hfl (fun p hp => ?_)) ?_ (((hsm.tr (Sm.wI (k := 30) Sm.rf (by decide))).tr (hsz.mono (by decide))).tr (hy.mono (by decide))), Nat.le_refl _⟩
        · rw [hz p hp]
          by_cases e : p < i
          · rw [if_pos e]
          · rw [if_neg e, htl.2 p (by omega), hfl.2 p (by omega)]
        · rw [(hy 30 (by decide)).1, (hsz 30 (by decide)).1]
          exact wI_eq
      | succ c ih =>
        intro i hi y hy hz
        iterate 3 refine hV.go rfl ?_
        refine topI (V := V) (show y.1 30 0 1 = nI A.1 by rw [(hy 30 (by decide)).1]; exact hqz.1.2.2.2.1) ?_
        refine hV.go rfl ?_
        refine And.intro (fun hc => ?_) (fun _ => ?_)
        · have hc : nI A.1 ≤ nI i := hc
          rw [nI_leI (by omega) (by omega)] at hc
          omega
        iterate 7 refine hV.go rfl ?_
        refine Exists.intro i (And.intro rfl (And.intro (show i < 12 by omega) ?_))
        refine topI (V := V) (show y.1 43 0 i = nI (f i) by rw [(hy 43 (by decide)).1]; exact h43.at (by omega)) ?_
        refine hV.go rfl ?_
        refine Exists.intro i (And.intro rfl (And.intro (show i < 12 by omega) ?_))
        iterate 2 refine hV.go rfl ?_
        have := ih (i + 1) (by omega) (wI y 32 0 i (nI (f i))) (Sm.wI (k := 32) hy (by decide)) (fun p hp => by
          by_cases e : p = i
          · rw [e, wI_eq, if_pos (by omega)]
          · rw [wI_ne (by omega), hz p hp]
            by_cases q : p < i
            · rw [if_pos q, if_pos (by omega)]
            · rw [if_neg q, if_neg (by omega)])
        rw [← nI_inc i] at this
        exact this
    iterate 2 refine hV.go rfl ?_
    exact loop A.1 0 (by omega) z Sm.rf (fun p hp => by rw [if_neg (by omega)]; exact hqz.1.2.2.2.2.2.2 p hp)
  · exact bad (Or.inr (Int64.not_lt.mp (fun z => hc ((lg_cmp_lt _ _).mpr z))))
theorem m_areFew {w : Wd} {A : AS} {po : Option AV → Wd → Prop} (G : GM l E) (hw : QI w A) (h1 : oN A.2.1 ≤ 1500 → ∀ u s, RC u A s → QI u A → u.1 30 0 0 = w.1 30 0 0 → Sm frK w u → po (some (vI 1)) u) (h2 : ¬ oN A.2.1 ≤ 1500 → ∀ u s, RC u A s → QI u A → u.1 30 0 0 = w.1 30 0 0 → Sm frK w u → po (some (vI 0)) u) : Ctr l E 4 0 mX5_areFew [vR 30] w po noX := by
  refine Ctr.of (tw := []) G.1 G.2 oX5_ok pgX5_areFew rfl (by decide) rfl rfl (Nat.le_of_ble_eq_true rfl) ?_
  intro V hV
  iterate 2 refine hV.go rfl ?_
  refine And.intro (callP_r (m_rows G hw) (by decide) (by decide) (fun r u hp => ?_)) trivial
  obtain ⟨rfl, s, hr, hqi, h0, hs⟩ := hp
  have ho : oN A.2.1 < 2 ^ 62 := hr.2.2.2.ord_lt (i := 0) (by decide)
  iterate 3 refine hV.go rfl ?_
  refine And.intro (callP_v (m_orderFrom (k := 0) G hr (by decide)) (by decide) (by decide) ?_) trivial
  iterate 3 refine hV.go rfl ?_
  refine And.intro (fun hc => ?_) (fun hc => ?_)
  · have hc : lN 1500 < lN (oN A.2.1) := (lg_cmp_gt _ _).mp hc
    rw [pk_lLT (by decide) (by omega)] at hc
    repeat refine hV.go rfl ?_
    exact ⟨Or.inl rfl, h2 (by omega) u s hr hqi h0 hs, Nat.le_refl _⟩
  · have hc : ¬ lN 1500 < lN (oN A.2.1) := fun z => hc ((lg_cmp_gt _ _).mpr z)
    rw [pk_lLT (by decide) (by omega)] at hc
    repeat refine hV.go rfl ?_
    exact ⟨Or.inr rfl, h1 (by omega) u s hr hqi h0 hs, Nat.le_refl _⟩
theorem m_moved {w : Wd} {A : AS} {s : CS} {f m : Nat → Nat} {i : Nat} {po : Option AV → Wd → Prop} (G : GM l E) (hr : RC w A s) (hf : Gen A.2.1 f) (ho : oN A.2.1 ≤ 1500) (hm : (mvs A.2.1)[i]? = some m) (hpo : ∀ u, Sm [36, 37, 38, 42, 43] w u → po (some (vI (nI (rN A.2.1 (cmp f m))))) u) : Ctr l E 5 0 mX5_moved [vR 30, vI (nI (rN A.2.1 f)), vI (nI i)] w po noX := by
  refine Ctr.of (tw := []) G.1 G.2 oX5_ok pgX5_moved rfl (by decide) rfl rfl (Nat.le_of_ble_eq_true rfl) ?_
  intro V hV
  have hlt := hr.2.2.2.rnk_lt f 12 0 rfl
  have n1 := hr.1.1.1
  have hfl := hr.lw hf
  have hmg : Gen A.2.1 m := by
    obtain ⟨t, ht, e⟩ := mvs_mem.mp (List.mem_of_getElem? hm)
    rcases e with e | e
    · rw [e]
      exact Gen.of ht
    · rw [e]
      exact hr.gr.2.2.1 _ (Gen.of ht)
  iterate 3 refine hV.go rfl ?_
  refine topJ (V := V) (nI_l (show rN A.2.1 f < 2 ^ 31 from Nat.lt_of_lt_of_le hlt (Nat.le_trans ho (by decide)))) ?_
  refine hV.go rfl ?_
  refine And.intro (callP_r (m_find (po := fun v z => v = none ∧ Rw z 43 0 f ∧ Sm [42, 43] w z) G hr hf (fun z a b => ⟨rfl, a, b⟩)) (by decide) (by decide) (fun r z hp => ?_)) trivial
  obtain ⟨rfl, h43, hsz⟩ := hp
  have hrz := hr.wk (hsz.mono (by decide))
  have loop : ∀ c j : Nat, j + c = A.1 → ∀ y, Sm [37] z y → (∀ p, p < j → y.1 37 0 p = nI (m (f p))) → V 8 [some (vR 30), some (vI (nI (rN A.2.1 f))), some (vI (nI i)), some (vI (nI j))] [] y 0 := by
    intro c
    induction c with
    | zero =>
      intro j hj y hy hz
      iterate 3 refine hV.go rfl ?_
      refine topI (V := V) (show y.1 30 0 1 = nI A.1 by rw [(hy 30 (by decide)).1]; exact hrz.1.1.2.2.2.1) ?_
      refine hV.go rfl ?_
      refine And.intro (fun _ => ?_) (fun hc => absurd (show nI A.1 ≤ nI j from nI_le (by omega) (by omega)) hc)
      iterate 2 refine hV.go rfl ?_
      refine And.intro (callP_r (m_rankR (f := cmp f m) (po := fun v q => v = some (vJ (lN (rN A.2.1 (cmp f m)))) ∧ Sm [36, 38, 42, 43] y q) G (hrz.wk (hy.mono (by decide))) (fun p hp => hz p (by omega)) (Gen.mul hf hmg) (fun q a => ⟨rfl, a⟩)) (by decide) (by decide) (fun r q hp => ?_)) trivial
      obtain ⟨rfl, hq⟩ := hp
      refine hV.go rfl ?_
      refine topI (V := V) (lN_i _) ?_
      refine hV.go rfl ?_
      exact ⟨hpo q (((hsz.mono (by decide)).tr (hy.mono (by decide))).tr (hq.mono (by decide))), Nat.le_refl _⟩
    | succ c ih =>
      intro j hj y hy hz
      iterate 3 refine hV.go rfl ?_
      refine topI (V := V) (show y.1 30 0 1 = nI A.1 by rw [(hy 30 (by decide)).1]; exact hrz.1.1.2.2.2.1) ?_
      refine hV.go rfl ?_
      refine And.intro (fun hc => ?_) (fun _ => ?_)
      · have hc : nI A.1 ≤ nI j := hc
        rw [nI_leI (by omega) (by omega)] at hc
        omega
      iterate 9 refine hV.go rfl ?_
      refine Exists.intro j (And.intro rfl (And.intro (show j < 12 by omega) ?_))
      refine topI (V := V) (show y.1 43 0 j = nI (f j) by rw [(hy 43 (by decide)).1]; exact h43.at (by omega)) ?_
      refine hV.go rfl ?_
      refine And.intro (callP_v (m_taken (p := f j) G hr.1.1.2.1.1 (MT.cg hrz.1.1.2.2.2.2.2.1 (hy 31 (by decide)).1) hm (hfl.1.1 j (by omega))) (by decide) (by decide) ?_) trivial
      refine hV.go rfl ?_
      refine Exists.intro j (And.intro rfl (And.intro (show j < 12 by omega) ?_))
      iterate 2 refine hV.go rfl ?_
      have := ih (j + 1) (by omega) (wI y 37 0 j (nI (m (f j)))) (Sm.wI (k := 37) hy (by decide)) (fun p hp => by
        by_cases e : p = j
        · rw [e, wI_eq]
        · rw [wI_ne (by omega)]
          exact hz p (by omega))
      rw [← nI_inc j] at this
      exact this
  iterate 2 refine hV.go rfl ?_
  exact loop A.1 0 (by omega) z Sm.rf (fun p hp => by omega)
end
