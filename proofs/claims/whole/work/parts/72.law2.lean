/-! the law's cases -/
section
variable {l : Launch} {E : En} {b n B i c : Nat} {xs : Nat → Int32} {w : Wd} {A : AS} {V : Nat → List (Option AV) → List AV → Wd → Nat → Prop}
theorem law_reset (G : GL l E) (hV : CLw l E b n xs B q_reset V) (hn : n ≤ 192) (hi : i + 3 < n) (hK : KI w A) (hQ : QI w A) (hc : c + 2 ≤ B) {x5 x6 x7 : Option AV} (nx : ∀ (u : Wd) (A : AS) (c2 : Nat) (x5 x6 x7 : Option AV), KI u A → QI u A → c2 ≤ c + 2 → V 1186 [some (vO b), some (vR 0), some (vR 30), some (vR 50), some (vI (nI i)), x5, x6, x7] [] u c2) : V 476 [some (vO b), some (vR 0), some (vR 30), some (vR 50), some (vI (nI i)), x5, x6, x7] [] w c := by
  iterate 2 refine hV.go rfl ?_
  refine And.intro (callP_r (c_reset (po := fun v z => v = none ∧ KI z (A.1, A.2.1, idp, A.2.2.2.1, A.2.2.2.2) ∧ Sm clK w z) G.c hK (fun u a b => ⟨rfl, a, b⟩)) (by decide) (by omega) (fun v u hp => ?_)) trivial
  obtain ⟨rfl, hKu, hsu⟩ := hp
  have hQu : QI u A := hQ.fr hsu (by decide)
  iterate 2 refine hV.go rfl ?_
  refine And.intro (callP_r (m_reset (po := fun v z => v = none ∧ QI z (A.1, A.2.1, idp, A.2.2.2.1, A.2.2.2.2) ∧ Sm mdK u z) G.m hQu (fun u a b => ⟨rfl, a, b⟩)) (by decide) (by omega) (fun v z hp => ?_)) trivial
  obtain ⟨rfl, hQz, hsz⟩ := hp
  refine hV.go rfl ?_
  exact nx z _ c _ _ _ (hKu.fr hsz (by decide)) hQz (by omega)
theorem law_place (G : GL l E) (hV : CLw l E b n xs B q_place V) (hn : n ≤ 192) (hi : i + 3 < n) (hK : KI w A) (hQ : QI w A) (hc : c + 2 ≤ B) {x5 x6 x7 : Option AV} (nx : ∀ (u : Wd) (A : AS) (c2 : Nat) (x5 x6 x7 : Option AV), KI u A → QI u A → c2 ≤ c + 2 → V 1186 [some (vO b), some (vR 0), some (vR 30), some (vR 50), some (vI (nI i)), x5, x6, x7] [] u c2) : V 487 [some (vO b), some (vR 0), some (vR 30), some (vR 50), some (vI (nI i)), x5, x6, x7] [] w c := by
  refine hV.go rfl ?_
  iterate 4 refine hV.go rfl ?_
  refine topI (V := V) (nI_add i 1) ?_
  refine hV.go rfl ?_
  refine And.intro rfl (Exists.intro (i + 1) (And.intro rfl (And.intro (by omega) ?_)))
  refine hV.go rfl ?_
  refine hV.go rfl ?_
  refine And.intro (callP_x (xo := noX) (po := fun v z => Sm otK w z ∧ ∃ (A' : AS) (k : Nat), k < 5 ∧ v = some (vI (nI k)) ∧ KI z A' ∧ (A' = A ∧ ((k = 0 ∧ ∃ a, a < A.1 ∧ xs (i + 1) = nI a ∧ z.2 50 0 0 = (nI (A.2.2.1 a)).toInt64) ∨ (k = 1 ∧ (xs (i + 1) < 0 ∨ nI A.1 ≤ xs (i + 1)))))) (w_place G (by decide) (c_place G.c hK (fun a ha e => ⟨nI (A.2.2.1 a), rfl, sm_ot Sm.rf _, A, 0, by decide, rfl, hK.ot _, rfl, Or.inl ⟨rfl, a, ha, e, wJ_50 _ _⟩⟩) (fun h => ⟨rfl, Sm.rf, A, 1, by decide, rfl, hK, rfl, Or.inr ⟨rfl, h⟩⟩))) (by decide) (by omega) (fun v u hp => ?_) (fun X u hp => hp.elim)) trivial
  obtain ⟨hsu, A', k, hk5, rfl, hKu, hrel⟩ := hp
  have hQu : QI u A := hQ.fr hsu (by decide)
  iterate 2 refine hV.go rfl ?_
  iterate 4 refine hV.go rfl ?_
  refine topI (V := V) (nI_add i 1) ?_
  refine hV.go rfl ?_
  refine And.intro rfl (Exists.intro (i + 1) (And.intro rfl (And.intro (by omega) ?_)))
  refine hV.go rfl ?_
  have hm : Ctr l E 2 0 mX5_place [vR 30, vI (xs (i + 1))] u (fun v z => QI z A' ∧ Sm mdK u z ∧ z.1 30 0 0 = nI k ∧ (∃ r : Int32, v = some (vI r) ∧ (k = 0 → r.toInt64 = u.2 50 0 0))) noX := by
    have n12 := hQ.1.1.2
    obtain ⟨rfl, ⟨rfl, a, ha, e, ho⟩ | ⟨rfl, h⟩⟩ := hrel
    · refine m_place G.m hQu (fun a' ha' e' u hu h0 hs => ?_) (fun h => (bnd_no ha (by omega) (by rw [← e]; exact h)).elim)
      have ea : a' = a := nI_inj (e'.symm.trans e) (by omega) (by omega)
      subst ea
      exact ⟨hu, hs, h0, _, rfl, fun _ => ho.symm⟩
    · exact m_place G.m hQu (fun a' ha' e' => (bnd_no ha' (by omega) (by rw [← e']; exact h)).elim) (fun _ u hu h0 hs => ⟨hu, hs, h0, _, rfl, fun z => by cases z⟩)
  refine And.intro (callP_r hm (by decide) (by omega) (fun v z hp => ?_)) trivial
  obtain ⟨hQz, hsz, hth, r, rfl, hans⟩ := hp
  refine hV.go rfl ?_
  iterate 2 refine hV.go rfl ?_
  refine And.intro (callP_v (m_thrown G.m) (by decide) (by omega) ?_) trivial
  refine topI (V := V) hth ?_
  iterate 2 refine hV.go rfl ?_
  refine And.intro (fun _ => ?_) (fun hc => absurd rfl hc)
  iterate 2 refine hV.go rfl ?_
  by_cases h0 : k = 0
  · subst h0
    refine And.intro (fun hc => absurd rfl (show ¬ (0 : Int32) = 0 from hc)) (fun _ => ?_)
    iterate 3 refine hV.go rfl ?_
    refine Exists.intro 0 (And.intro rfl (And.intro (by decide) ?_))
    refine topJ (V := V) (show z.2 50 0 0 = r.toInt64 by rw [(hsz 50 (by decide)).2]; exact (hans rfl).symm) ?_
    iterate 4 refine hV.go rfl ?_
    refine And.intro (fun _ => ?_) (fun hc => absurd (lg_eq.mpr rfl) hc)
    refine hV.go rfl ?_
    exact nx z A' _ _ _ _ (hKu.fr hsz (by decide)) hQz (by omega)
  · refine And.intro (fun _ => ?_) (fun hc => ?_)
    · refine hV.go rfl ?_
      exact nx z A' _ _ _ _ (hKu.fr hsz (by decide)) hQz (by omega)
    · have hc : nI k = nI 0 := Classical.not_not.mp hc
      exact (h0 (nI_inj hc (by omega) (by decide))).elim
theorem law_order (G : GL l E) (hV : CLw l E b n xs B q_order V) (hn : n ≤ 192) (hi : i + 3 < n) (hK : KI w A) (hQ : QI w A) (hc : c + 2 ≤ B) {x5 x6 x7 : Option AV} (nx : ∀ (u : Wd) (A : AS) (c2 : Nat) (x5 x6 x7 : Option AV), KI u A → QI u A → c2 ≤ c + 2 → V 1186 [some (vO b), some (vR 0), some (vR 30), some (vR 50), some (vI (nI i)), x5, x6, x7] [] u c2) : V 543 [some (vO b), some (vR 0), some (vR 30), some (vR 50), some (vI (nI i)), x5, x6, x7] [] w c := by
  refine hV.go rfl ?_
  refine hV.go rfl ?_
  refine And.intro (callP_v (c_order G.c hK) (by decide) (by omega) ?_) trivial
  refine hV.go rfl ?_
  refine hV.go rfl ?_
  refine And.intro (callP_r (po := fun v z => QI z A ∧ Sm mdK w z ∧ v = some (vJ (lN (ord (Gen A.2.1) 12 0)))) (m_order G.m hQ (fun u hu _ hs => ⟨hu, hs, rfl⟩)) (by decide) (by omega) (fun v z hp => ?_)) trivial
  obtain ⟨hQz, hsz, rfl⟩ := hp
  refine hV.go rfl ?_
  refine hV.go rfl ?_
  refine And.intro (fun _ => nx z A c _ _ _ (hK.fr hsz (by decide)) hQz (by omega)) (fun hc => absurd (lg_eq.mpr rfl) hc)
theorem law_orbit (G : GL l E) (hV : CLw l E b n xs B q_orbit V) (hn : n ≤ 192) (hi : i + 3 < n) (hK : KI w A) (hQ : QI w A) (hc : c + 2 ≤ B) {x5 x6 x7 : Option AV} (nx : ∀ (u : Wd) (A : AS) (c2 : Nat) (x5 x6 x7 : Option AV), KI u A → QI u A → c2 ≤ c + 2 → V 1186 [some (vO b), some (vR 0), some (vR 30), some (vR 50), some (vI (nI i)), x5, x6, x7] [] u c2) : V 557 [some (vO b), some (vR 0), some (vR 30), some (vR 50), some (vI (nI i)), x5, x6, x7] [] w c := by
  refine hV.go rfl ?_
  iterate 4 refine hV.go rfl ?_
  refine topI (V := V) (nI_add i 1) ?_
  refine hV.go rfl ?_
  refine And.intro rfl (Exists.intro (i + 1) (And.intro rfl (And.intro (by omega) ?_)))
  refine hV.go rfl ?_
  refine hV.go rfl ?_
  refine And.intro (callP_x (xo := noX) (po := fun v z => Sm otK w z ∧ ∃ (A' : AS) (k : Nat), k < 5 ∧ v = some (vI (nI k)) ∧ KI z A' ∧ (A' = A ∧ ((k = 0 ∧ ∃ a, a < A.1 ∧ xs (i + 1) = nI a ∧ z.2 50 0 0 = (nI (oz (Gen A.2.1) a)).toInt64) ∨ (k = 1 ∧ (xs (i + 1) < 0 ∨ nI A.1 ≤ xs (i + 1)))))) (w_orbit G (by decide) (c_orbit G.c hK (fun a ha e => ⟨nI (oz (Gen A.2.1) a), rfl, sm_ot Sm.rf _, A, 0, by decide, rfl, hK.ot _, rfl, Or.inl ⟨rfl, a, ha, e, wJ_50 _ _⟩⟩) (fun h => ⟨rfl, Sm.rf, A, 1, by decide, rfl, hK, rfl, Or.inr ⟨rfl, h⟩⟩))) (by decide) (by omega) (fun v u hp => ?_) (fun X u hp => hp.elim)) trivial
  obtain ⟨hsu, A', k, hk5, rfl, hKu, hrel⟩ := hp
  have hQu : QI u A := hQ.fr hsu (by decide)
  iterate 2 refine hV.go rfl ?_
  iterate 4 refine hV.go rfl ?_
  refine topI (V := V) (nI_add i 1) ?_
  refine hV.go rfl ?_
  refine And.intro rfl (Exists.intro (i + 1) (And.intro rfl (And.intro (by omega) ?_)))
  refine hV.go rfl ?_
  have hm : Ctr l E 4 0 mX5_orbit [vR 30, vI (xs (i + 1))] u (fun v z => QI z A' ∧ Sm mdK u z ∧ z.1 30 0 0 = nI k ∧ (∃ r : Int32, v = some (vI r) ∧ (k = 0 → r.toInt64 = u.2 50 0 0))) noX := by
    have n12 := hQ.1.1.2
    obtain ⟨rfl, ⟨rfl, a, ha, e, ho⟩ | ⟨rfl, h⟩⟩ := hrel
    · refine m_orbit G.m hQu (fun a' ha' e' u hu h0 hs => ?_) (fun h => (bnd_no ha (by omega) (by rw [← e]; exact h)).elim)
      have ea : a' = a := nI_inj (e'.symm.trans e) (by omega) (by omega)
      subst ea
      exact ⟨hu, hs, h0, _, rfl, fun _ => ho.symm⟩
    · exact m_orbit G.m hQu (fun a' ha' e' => (bnd_no ha' (by omega) (by rw [← e']; exact h)).elim) (fun _ u hu h0 hs => ⟨hu, hs, h0, _, rfl, fun z => by cases z⟩)
  refine And.intro (callP_r hm (by decide) (by omega) (fun v z hp => ?_)) trivial
  obtain ⟨hQz, hsz, hth, r, rfl, hans⟩ := hp
  refine hV.go rfl ?_
  iterate 2 refine hV.go rfl ?_
  refine And.intro (callP_v (m_thrown G.m) (by decide) (by omega) ?_) trivial
  refine topI (V := V) hth ?_
  iterate 2 refine hV.go rfl ?_
  refine And.intro (fun _ => ?_) (fun hc => absurd rfl hc)
  iterate 2 refine hV.go rfl ?_
  by_cases h0 : k = 0
  · subst h0
    refine And.intro (fun hc => absurd rfl (show ¬ (0 : Int32) = 0 from hc)) (fun _ => ?_)
    iterate 3 refine hV.go rfl ?_
    refine Exists.intro 0 (And.intro rfl (And.intro (by decide) ?_))
    refine topJ (V := V) (show z.2 50 0 0 = r.toInt64 by rw [(hsz 50 (by decide)).2]; exact (hans rfl).symm) ?_
    iterate 4 refine hV.go rfl ?_
    refine And.intro (fun _ => ?_) (fun hc => absurd (lg_eq.mpr rfl) hc)
    refine hV.go rfl ?_
    exact nx z A' _ _ _ _ (hKu.fr hsz (by decide)) hQz (by omega)
  · refine And.intro (fun _ => ?_) (fun hc => ?_)
    · refine hV.go rfl ?_
      exact nx z A' _ _ _ _ (hKu.fr hsz (by decide)) hQz (by omega)
    · have hc : nI k = nI 0 := Classical.not_not.mp hc
      exact (h0 (nI_inj hc (by omega) (by decide))).elim
theorem law_inOrbit (G : GL l E) (hV : CLw l E b n xs B q_inOrbit V) (hn : n ≤ 192) (hi : i + 3 < n) (hK : KI w A) (hQ : QI w A) (hc : c + 2 ≤ B) {x5 x6 x7 : Option AV} (nx : ∀ (u : Wd) (A : AS) (c2 : Nat) (x5 x6 x7 : Option AV), KI u A → QI u A → c2 ≤ c + 2 → V 1186 [some (vO b), some (vR 0), some (vR 30), some (vR 50), some (vI (nI i)), x5, x6, x7] [] u c2) : V 613 [some (vO b), some (vR 0), some (vR 30), some (vR 50), some (vI (nI i)), x5, x6, x7] [] w c := by
  refine hV.go rfl ?_
  iterate 4 refine hV.go rfl ?_
  refine topI (V := V) (nI_add i 1) ?_
  refine hV.go rfl ?_
  refine And.intro rfl (Exists.intro (i + 1) (And.intro rfl (And.intro (by omega) ?_)))
  iterate 4 refine hV.go rfl ?_
  refine topI (V := V) (nI_add i 2) ?_
  refine hV.go rfl ?_
  refine And.intro rfl (Exists.intro (i + 2) (And.intro rfl (And.intro (by omega) ?_)))
  refine hV.go rfl ?_
  refine hV.go rfl ?_
  refine And.intro (callP_x (xo := noX) (po := fun v z => Sm otK w z ∧ ∃ (A' : AS) (k : Nat), k < 5 ∧ v = some (vI (nI k)) ∧ KI z A' ∧ (A' = A ∧ ((k = 0 ∧ ∃ a b, a < A.1 ∧ b < A.1 ∧ xs (i + 1) = nI a ∧ xs (i + 2) = nI b ∧ z.2 50 0 0 = b2j (cd (Orb (Gen A.2.1) a b))) ∨ (k = 1 ∧ ((xs (i + 1) < 0 ∨ nI A.1 ≤ xs (i + 1)) ∨ (xs (i + 2) < 0 ∨ nI A.1 ≤ xs (i + 2))))))) (w_inOrbit G (by decide) (c_inOrbit G.c hK (fun a b ha hb e f => ⟨cd (Orb (Gen A.2.1) a b), rfl, sm_ot Sm.rf _, A, 0, by decide, rfl, hK.ot _, rfl, Or.inl ⟨rfl, a, b, ha, hb, e, f, wJ_50 _ _⟩⟩) (fun h => ⟨rfl, Sm.rf, A, 1, by decide, rfl, hK, rfl, Or.inr ⟨rfl, h⟩⟩))) (by decide) (by omega) (fun v u hp => ?_) (fun X u hp => hp.elim)) trivial
  obtain ⟨hsu, A', k, hk5, rfl, hKu, hrel⟩ := hp
  have hQu : QI u A := hQ.fr hsu (by decide)
  iterate 2 refine hV.go rfl ?_
  iterate 4 refine hV.go rfl ?_
  refine topI (V := V) (nI_add i 1) ?_
  refine hV.go rfl ?_
  refine And.intro rfl (Exists.intro (i + 1) (And.intro rfl (And.intro (by omega) ?_)))
  iterate 4 refine hV.go rfl ?_
  refine topI (V := V) (nI_add i 2) ?_
  refine hV.go rfl ?_
  refine And.intro rfl (Exists.intro (i + 2) (And.intro rfl (And.intro (by omega) ?_)))
  refine hV.go rfl ?_
  have hm : Ctr l E 4 0 mX5_inOrbit [vR 30, vI (xs (i + 1)), vI (xs (i + 2))] u (fun v z => QI z A' ∧ Sm mdK u z ∧ z.1 30 0 0 = nI k ∧ (∃ r : Bool, v = some (vI (b2i r)) ∧ (k = 0 → b2j r = u.2 50 0 0))) noX := by
    have n12 := hQ.1.1.2
    obtain ⟨rfl, ⟨rfl, a, b, ha, hb, e, f, ho⟩ | ⟨rfl, h⟩⟩ := hrel
    · refine m_inOrbit G.m hQu (fun a' b' ha' hb' e' f' u hu h0 hs => ?_) (fun h => (h.elim (fun h => bnd_no ha (by omega) (by rw [← e]; exact h)) (fun h => bnd_no hb (by omega) (by rw [← f]; exact h))).elim)
      have ea : a' = a := nI_inj (e'.symm.trans e) (by omega) (by omega)
      have eb : b' = b := nI_inj (f'.symm.trans f) (by omega) (by omega)
      subst ea
      subst eb
      exact ⟨hu, hs, h0, _, rfl, fun _ => ho.symm⟩
    · exact m_inOrbit G.m hQu (fun a' b' ha' hb' e' f' => (h.elim (fun h => bnd_no ha' (by omega) (by rw [← e']; exact h)) (fun h => bnd_no hb' (by omega) (by rw [← f']; exact h))).elim) (fun _ u hu h0 hs => ⟨hu, hs, h0, false, rfl, fun z => by cases z⟩)
  refine And.intro (callP_r hm (by decide) (by omega) (fun v z hp => ?_)) trivial
  obtain ⟨hQz, hsz, hth, r, rfl, hans⟩ := hp
  refine hV.go rfl ?_
  iterate 2 refine hV.go rfl ?_
  refine And.intro (callP_v (m_thrown G.m) (by decide) (by omega) ?_) trivial
  refine topI (V := V) hth ?_
  iterate 2 refine hV.go rfl ?_
  refine And.intro (fun _ => ?_) (fun hc => absurd rfl hc)
  iterate 2 refine hV.go rfl ?_
  by_cases h0 : k = 0
  · subst h0
    refine And.intro (fun hc => absurd rfl (show ¬ (0 : Int32) = 0 from hc)) (fun _ => ?_)
    iterate 3 refine hV.go rfl ?_
    refine Exists.intro 0 (And.intro rfl (And.intro (by decide) ?_))
    refine topJ (V := V) (show z.2 50 0 0 = b2j r by rw [(hsz 50 (by decide)).2]; exact (hans rfl).symm) ?_
    iterate 2 refine hV.go rfl ?_
    cases r with
    | true =>
      refine And.intro (fun hc => absurd (show (1 : Int32) = 0 from hc) (by decide)) (fun _ => ?_)
      iterate 4 refine hV.go rfl ?_
      refine And.intro (fun _ => ?_) (fun hc => absurd (lg_eq.mpr rfl) hc)
      refine hV.go rfl ?_
      exact nx z A' _ _ _ _ (hKu.fr hsz (by decide)) hQz (by omega)
    | false =>
      refine And.intro (fun _ => ?_) (fun hc => absurd rfl hc)
      iterate 3 refine hV.go rfl ?_
      refine And.intro (fun _ => ?_) (fun hc => absurd (lg_eq.mpr rfl) hc)
      refine hV.go rfl ?_
      exact nx z A' _ _ _ _ (hKu.fr hsz (by decide)) hQz (by omega)
  · refine And.intro (fun _ => ?_) (fun hc => ?_)
    · refine hV.go rfl ?_
      exact nx z A' _ _ _ _ (hKu.fr hsz (by decide)) hQz (by omega)
    · have hc : nI k = nI 0 := Classical.not_not.mp hc
      exact (h0 (nI_inj hc (by omega) (by decide))).elim
theorem law_reachable (G : GL l E) (hV : CLw l E b n xs B q_reachable V) (hn : n ≤ 192) (hi : i + 3 < n) (hK : KI w A) (hQ : QI w A) (hc : c + 2 ≤ B) {x5 x6 x7 : Option AV} (nx : ∀ (u : Wd) (A : AS) (c2 : Nat) (x5 x6 x7 : Option AV), KI u A → QI u A → c2 ≤ c + 2 → V 1186 [some (vO b), some (vR 0), some (vR 30), some (vR 50), some (vI (nI i)), x5, x6, x7] [] u c2) : V 688 [some (vO b), some (vR 0), some (vR 30), some (vR 50), some (vI (nI i)), x5, x6, x7] [] w c := by
  refine hV.go rfl ?_
  refine hV.go rfl ?_
  refine And.intro (callP_v (c_reachable G.c hK) (by decide) (by omega) ?_) trivial
  refine hV.go rfl ?_
  refine hV.go rfl ?_
  refine And.intro (callP_r (po := fun v z => QI z A ∧ Sm mdK w z ∧ v = some (vI (b2i (cd (Gen A.2.1 A.2.2.1))))) (m_reachable G.m hQ (fun u hu _ hs => ⟨hu, hs, rfl⟩)) (by decide) (by omega) (fun v z hp => ?_)) trivial
  obtain ⟨hQz, hsz, rfl⟩ := hp
  refine hV.go rfl ?_
  refine And.intro (fun _ => nx z A c _ _ _ (hK.fr hsz (by decide)) hQz (by omega)) (fun hc => absurd rfl hc)
theorem law_rank (G : GL l E) (hV : CLw l E b n xs B q_rank V) (hn : n ≤ 192) (hi : i + 3 < n) (hK : KI w A) (hQ : QI w A) (hc : c + 2 ≤ B) {x5 x6 x7 : Option AV} (nx : ∀ (u : Wd) (A : AS) (c2 : Nat) (x5 x6 x7 : Option AV), KI u A → QI u A → c2 ≤ c + 2 → V 1186 [some (vO b), some (vR 0), some (vR 30), some (vR 50), some (vI (nI i)), x5, x6, x7] [] u c2) : V 701 [some (vO b), some (vR 0), some (vR 30), some (vR 50), some (vI (nI i)), x5, x6, x7] [] w c := by
  refine hV.go rfl ?_
  refine hV.go rfl ?_
  refine hV.go rfl ?_
  refine And.intro (callP_x (xo := noX) (po := fun v z => Sm otK w z ∧ ∃ (A' : AS) (k : Nat), k < 5 ∧ v = some (vI (nI k)) ∧ KI z A' ∧ (A' = A ∧ ((k = 0 ∧ Gen A.2.1 A.2.2.1 ∧ z.2 50 0 0 = lN (rnk (Gen A.2.1) A.2.2.1 12 0)) ∨ (k = 1 ∧ ¬ Gen A.2.1 A.2.2.1)))) (w_rank G (by decide) (c_rank G.c hK (fun h => ⟨_, rfl, sm_ot Sm.rf _, A, 0, by decide, rfl, hK.ot _, rfl, Or.inl ⟨rfl, h, wJ_50 _ _⟩⟩) (fun h => ⟨rfl, Sm.rf, A, 1, by decide, rfl, hK, rfl, Or.inr ⟨rfl, h⟩⟩))) (by decide) (by omega) (fun v u hp => ?_) (fun X u hp => hp.elim)) trivial
  obtain ⟨hsu, A', k, hk5, rfl, hKu, hrel⟩ := hp
  have hQu : QI u A := hQ.fr hsu (by decide)
  iterate 2 refine hV.go rfl ?_
  refine hV.go rfl ?_
  have hm : Ctr l E 5 0 mX5_rank [vR 30] u (fun v z => QI z A' ∧ Sm mdK u z ∧ z.1 30 0 0 = nI k ∧ (∃ r : Int64, v = some (vJ r) ∧ (k = 0 → r = u.2 50 0 0))) noX := by
    obtain ⟨rfl, ⟨rfl, h, ho⟩ | ⟨rfl, h⟩⟩ := hrel
    · exact m_rank G.m hQu (fun _ u hu h0 hs => ⟨hu, hs, h0, _, rfl, fun _ => ho.symm⟩) (fun h' => (h' h).elim)
    · exact m_rank G.m hQu (fun h' => (h h').elim) (fun _ u hu h0 hs => ⟨hu, hs, h0, _, rfl, fun z => by cases z⟩)
  refine And.intro (callP_r hm (by decide) (by omega) (fun v z hp => ?_)) trivial
  obtain ⟨hQz, hsz, hth, r, rfl, hans⟩ := hp
  refine hV.go rfl ?_
  iterate 2 refine hV.go rfl ?_
  refine And.intro (callP_v (m_thrown G.m) (by decide) (by omega) ?_) trivial
  refine topI (V := V) hth ?_
  iterate 2 refine hV.go rfl ?_
  refine And.intro (fun _ => ?_) (fun hc => absurd rfl hc)
  iterate 2 refine hV.go rfl ?_
  by_cases h0 : k = 0
  · subst h0
    refine And.intro (fun hc => absurd rfl (show ¬ (0 : Int32) = 0 from hc)) (fun _ => ?_)
    iterate 3 refine hV.go rfl ?_
    refine Exists.intro 0 (And.intro rfl (And.intro (by decide) ?_))
    refine topJ (V := V) (show z.2 50 0 0 = r by rw [(hsz 50 (by decide)).2]; exact (hans rfl).symm) ?_
    iterate 3 refine hV.go rfl ?_
    refine And.intro (fun _ => ?_) (fun hc => absurd (lg_eq.mpr rfl) hc)
    refine hV.go rfl ?_
    exact nx z A' _ _ _ _ (hKu.fr hsz (by decide)) hQz (by omega)
  · refine And.intro (fun _ => ?_) (fun hc => ?_)
    · refine hV.go rfl ?_
      exact nx z A' _ _ _ _ (hKu.fr hsz (by decide)) hQz (by omega)
    · have hc : nI k = nI 0 := Classical.not_not.mp hc
      exact (h0 (nI_inj hc (by omega) (by decide))).elim
theorem law_unrank (G : GL l E) (hV : CLw l E b n xs B q_unrank V) (hn : n ≤ 192) (hi : i + 3 < n) (hK : KI w A) (hQ : QI w A) (hc : c + 2 ≤ B) {x5 x6 x7 : Option AV} (nx : ∀ (u : Wd) (A : AS) (c2 : Nat) (x5 x6 x7 : Option AV), KI u A → QI u A → c2 ≤ c + 2 → V 1186 [some (vO b), some (vR 0), some (vR 30), some (vR 50), some (vI (nI i)), x5, x6, x7] [] u c2) : V 744 [some (vO b), some (vR 0), some (vR 30), some (vR 50), some (vI (nI i)), x5, x6, x7] [] w c := by
  refine hV.go rfl ?_
  iterate 4 refine hV.go rfl ?_
  refine topI (V := V) (nI_add i 1) ?_
  refine hV.go rfl ?_
  refine And.intro rfl (Exists.intro (i + 1) (And.intro rfl (And.intro (by omega) ?_)))
  iterate 3 refine hV.go rfl ?_
  iterate 4 refine hV.go rfl ?_
  refine topI (V := V) (nI_add i 2) ?_
  refine hV.go rfl ?_
  refine And.intro rfl (Exists.intro (i + 2) (And.intro rfl (And.intro (by omega) ?_)))
  iterate 4 refine hV.go rfl ?_
  refine hV.go rfl ?_
  refine And.intro (callP_x (xo := noX) (po := fun v z => Sm otK w z ∧ ∃ (A' : AS) (k : Nat), k < 5 ∧ v = some (vI (nI k)) ∧ KI z A' ∧ ((k = 0 ∧ ∃ f, Gen A.2.1 f ∧ (((xs (i + 1)).toInt64 <<< (((Int8.ofInt 32).toInt32).toInt64 &&& 63)) ||| ((xs (i + 2)).toInt64 &&& 4294967295)) = lN (rN A.2.1 f) ∧ A' = (A.1, A.2.1, f, A.2.2.2.1, A.2.2.2.2)) ∨ (k = 1 ∧ A' = A ∧ ((((xs (i + 1)).toInt64 <<< (((Int8.ofInt 32).toInt32).toInt64 &&& 63)) ||| ((xs (i + 2)).toInt64 &&& 4294967295)) < 0 ∨ lN (oN A.2.1) ≤ (((xs (i + 1)).toInt64 <<< (((Int8.ofInt 32).toInt32).toInt64 &&& 63)) ||| ((xs (i + 2)).toInt64 &&& 4294967295)))))) (w_unrank G (by decide) (c_unrank G.c hK (fun f hf e u hu hs => ⟨rfl, hs.mono (by decide), _, 0, by decide, rfl, hu, Or.inl ⟨rfl, f, hf, e, rfl⟩⟩) (fun h => ⟨rfl, Sm.rf, A, 1, by decide, rfl, hK, Or.inr ⟨rfl, rfl, h⟩⟩))) (by decide) (by omega) (fun v u hp => ?_) (fun X u hp => hp.elim)) trivial
  obtain ⟨hsu, A', k, hk5, rfl, hKu, hrel⟩ := hp
  have hQu : QI u A := hQ.fr hsu (by decide)
  iterate 2 refine hV.go rfl ?_
  iterate 4 refine hV.go rfl ?_
  refine topI (V := V) (nI_add i 1) ?_
  refine hV.go rfl ?_
  refine And.intro rfl (Exists.intro (i + 1) (And.intro rfl (And.intro (by omega) ?_)))
  iterate 3 refine hV.go rfl ?_
  iterate 4 refine hV.go rfl ?_
  refine topI (V := V) (nI_add i 2) ?_
  refine hV.go rfl ?_
  refine And.intro rfl (Exists.intro (i + 2) (And.intro rfl (And.intro (by omega) ?_)))
  iterate 4 refine hV.go rfl ?_
  refine hV.go rfl ?_
  have hm : Ctr l E 4 0 mX5_unrank [vR 30, vJ (((xs (i + 1)).toInt64 <<< (((Int8.ofInt 32).toInt32).toInt64 &&& 63)) ||| ((xs (i + 2)).toInt64 &&& 4294967295))] u (fun v z => QI z A' ∧ Sm mdK u z ∧ z.1 30 0 0 = nI k ∧ (v = none)) noX := by
    obtain ⟨s, hch, hcp⟩ := hK.1.2.2.1.cp
    have hpm : ∀ t ∈ A.2.1, Pm t := fun t ht => (hQ.1.2.1.2 t ht).1
    have h62 := oN_lt hch hcp
    have nob : ∀ f, ¬ (lN (rN A.2.1 f) < 0 ∨ lN (oN A.2.1) ≤ lN (rN A.2.1 f)) := by
      intro f h
      have hr : rN A.2.1 f < oN A.2.1 := hcp.rnk_lt f 12 0 rfl
      rcases h with h | h
      · exact lN_nn (by omega) h
      · rw [pk_lLE (by omega) (by omega)] at h
        omega
    rcases hrel with ⟨rfl, f, hf, e, rfl⟩ | ⟨rfl, rfl, h⟩
    · refine m_unrank G.m hQu (fun f' hf' e' u hu h0 hs => ?_) (fun h => (nob f (by rw [← e]; exact h)).elim)
      have h1 : rN A.2.1 f < oN A.2.1 := hcp.rnk_lt f 12 0 rfl
      have h2 : rN A.2.1 f' < oN A.2.1 := hcp.rnk_lt f' 12 0 rfl
      have er := (pk_lEQ (by omega) (by omega)).mp (e'.symm.trans e)
      have ef : f' = f := hcp.rnk_inj (Gr.gen hpm) hf' hf 12 0 rfl (fun j hj => by omega) er
      subst ef
      exact ⟨hu, hs, h0, rfl⟩
    · exact m_unrank G.m hQu (fun f' hf' e' => (nob f' (by rw [← e']; exact h)).elim) (fun _ u hu h0 hs => ⟨hu, hs, h0, rfl⟩)
  refine And.intro (callP_r hm (by decide) (by omega) (fun v z hp => ?_)) trivial
  obtain ⟨hQz, hsz, hth, rfl⟩ := hp
  iterate 2 refine hV.go rfl ?_
  refine And.intro (callP_v (m_thrown G.m) (by decide) (by omega) ?_) trivial
  refine topI (V := V) hth ?_
  iterate 2 refine hV.go rfl ?_
  refine And.intro (fun _ => ?_) (fun hc => absurd rfl hc)
  refine hV.go rfl ?_
  exact nx z A' _ _ _ _ (hKu.fr hsz (by decide)) hQz (by omega)
end
