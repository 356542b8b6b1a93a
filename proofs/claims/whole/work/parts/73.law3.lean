/-! the law's cases -/
section
variable {l : Launch} {E : En} {b n B i c : Nat} {xs : Nat → Int32} {w : Wd} {A : AS} {V : Nat → List (Option AV) → List AV → Wd → Nat → Prop}
theorem law_block (G : GL l E) (hV : CLw l E b n xs B q_block V) (hn : n ≤ 192) (hi : i + 3 < n) (hK : KI w A) (hQ : QI w A) (hc : c + 2 ≤ B) {x5 x6 x7 : Option AV} (nx : ∀ (u : Wd) (A : AS) (c2 : Nat) (x5 x6 x7 : Option AV), KI u A → QI u A → c2 ≤ c + 2 → V 1186 [some (vO b), some (vR 0), some (vR 30), some (vR 50), some (vI (nI i)), x5, x6, x7] [] u c2) : V 812 [some (vO b), some (vR 0), some (vR 30), some (vR 50), some (vI (nI i)), x5, x6, x7] [] w c := by
  refine hV.go rfl ?_
  iterate 4 refine hV.go rfl ?_
  refine topI (V := V) (nI_add i 1) ?_
  refine hV.go rfl ?_
  refine And.intro rfl (Exists.intro (i + 1) (And.intro rfl (And.intro (by omega) ?_)))
  iterate 4 refine hV.go rfl ?_
  refine topI (V := V) (nI_add i 2) ?_
  refine hV.go rfl ?_
  refine And.intro rfl (Exists.intro (i + 2) (And.intro rfl (And.intro (by omega) ?_)))
  refine hV.go rfl ?_
  refine hV.go rfl ?_
  refine And.intro (callP_x (xo := noX) (po := fun v z => Sm otK w z ∧ ∃ (A' : AS) (k : Nat), k < 5 ∧ v = some (vI (nI k)) ∧ KI z A' ∧ (A' = A ∧ ((k = 0 ∧ ∃ a b r, a < A.1 ∧ b < A.1 ∧ xs (i + 1) = nI a ∧ xs (i + 2) = nI b ∧ BlkV A.2.1 a b r ∧ z.2 50 0 0 = r.toInt64) ∨ (k = 1 ∧ ((xs (i + 1) < 0 ∨ nI A.1 ≤ xs (i + 1)) ∨ (xs (i + 2) < 0 ∨ nI A.1 ≤ xs (i + 2))))))) (w_block G (by decide) (c_block G.c hK (fun a b ha hb e f u r hr hu hs => ⟨r, rfl, sm_ot hs _, A, 0, by decide, rfl, hu.ot _, rfl, Or.inl ⟨rfl, a, b, r, ha, hb, e, f, hr, wJ_50 _ _⟩⟩) (fun h => ⟨rfl, Sm.rf, A, 1, by decide, rfl, hK, rfl, Or.inr ⟨rfl, h⟩⟩))) (by decide) (by omega) (fun v u hp => ?_) (fun X u hp => hp.elim)) trivial
  obtain ⟨hsu, A', k, hk5, rfl, hKu, hrel⟩ := hp
  have hQu : QI u A := hQ.fr hsu (by decide)
  iterate 2 refine hV.go rfl ?_
  iterate 4 refine hV.go rfl ?_
  refine topI (V := V) (nI_add i 1) ?_
  refine hV.go rfl ?_
  refine And.intro rfl (Exists.intro (i + 1) (And.intro rfl (And.intro (by omega) ?_)))
  iterate 4 refine hV.go rfl ?_
  refine topI (V := V) (nI_add i 2) ?_
  refine hV.go rfl ?_
  refine And.intro rfl (Exists.intro (i + 2) (And.intro rfl (And.intro (by omega) ?_)))
  refine hV.go rfl ?_
  have hm : Ctr l E 2 0 mX5_block [vR 30, vI (xs (i + 1)), vI (xs (i + 2))] u (fun v z => QI z A' ∧ Sm mdK u z ∧ z.1 30 0 0 = nI k ∧ (∃ r : Int32, v = some (vI r) ∧ (k = 0 → r.toInt64 = u.2 50 0 0))) noX := by
    have n12 := hQ.1.1.2
    obtain ⟨rfl, ⟨rfl, a, b, r, ha, hb, e, f, hr, ho⟩ | ⟨rfl, h⟩⟩ := hrel
    · refine m_block G.m hQu (fun a' b' ha' hb' e' f' u r' hr' hu h0 hs => ?_) (fun h => (h.elim (fun h => bnd_no ha (by omega) (by rw [← e]; exact h)) (fun h => bnd_no hb (by omega) (by rw [← f]; exact h))).elim)
      have ea : a' = a := nI_inj (e'.symm.trans e) (by omega) (by omega)
      have eb : b' = b := nI_inj (f'.symm.trans f) (by omega) (by omega)
      subst ea
      subst eb
      rw [hr'.uniq hr]
      exact ⟨hu, hs, h0, _, rfl, fun _ => ho.symm⟩
    · exact m_block G.m hQu (fun a' b' ha' hb' e' f' => (h.elim (fun h => bnd_no ha' (by omega) (by rw [← e']; exact h)) (fun h => bnd_no hb' (by omega) (by rw [← f']; exact h))).elim) (fun _ u hu h0 hs => ⟨hu, hs, h0, _, rfl, fun z => by cases z⟩)
  refine And.intro (callP_r hm (by decide) (by omega) (fun v z hp => ?_)) trivial
  obtain ⟨hQz, hsz, hth, r, rfl, hans⟩ := hp
  refine hV.go rfl ?_
  iterate 2 refine hV.go rfl ?_
  refine And.intro (callP_v (m_thrown G.m) (by decide) (by omega) ?_) trivial
  refine topI (V := V) hth ?_
  iterate 2 refine hV.go rfl ?_
  refine And.intro (fun _ => ?_) (fun hc => absurd rfl hc)
  iterate 2 refine hV.go rfl ?_
  by_cases h0 : k = 0
  · subst h0
    refine And.intro (fun hc => absurd rfl (show ¬ (0 : Int32) = 0 from hc)) (fun _ => ?_)
    iterate 3 refine hV.go rfl ?_
    refine Exists.intro 0 (And.intro rfl (And.intro (by decide) ?_))
    refine topJ (V := V) (show z.2 50 0 0 = r.toInt64 by rw [(hsz 50 (by decide)).2]; exact (hans rfl).symm) ?_
    iterate 4 refine hV.go rfl ?_
    refine And.intro (fun _ => ?_) (fun hc => absurd (lg_eq.mpr rfl) hc)
    refine hV.go rfl ?_
    exact nx z A' _ _ _ _ (hKu.fr hsz (by decide)) hQz (by omega)
  · refine And.intro (fun _ => ?_) (fun hc => ?_)
    · refine hV.go rfl ?_
      exact nx z A' _ _ _ _ (hKu.fr hsz (by decide)) hQz (by omega)
    · have hc : nI k = nI 0 := Classical.not_not.mp hc
      exact (h0 (nI_inj hc (by omega) (by decide))).elim
theorem law_diameter (G : GL l E) (hV : CLw l E b n xs B q_diameter V) (hn : n ≤ 192) (hi : i + 3 < n) (hK : KI w A) (hQ : QI w A) (hc : c + 2 ≤ B) {x5 x6 x7 : Option AV} (nx : ∀ (u : Wd) (A : AS) (c2 : Nat) (x5 x6 x7 : Option AV), KI u A → QI u A → c2 ≤ c + 2 → V 1186 [some (vO b), some (vR 0), some (vR 30), some (vR 50), some (vI (nI i)), x5, x6, x7] [] u c2) : V 880 [some (vO b), some (vR 0), some (vR 30), some (vR 50), some (vI (nI i)), x5, x6, x7] [] w c := by
  refine hV.go rfl ?_
  refine hV.go rfl ?_
  refine hV.go rfl ?_
  refine And.intro (callP_x (xo := noX) (po := fun v z => Sm otK w z ∧ ∃ (A' : AS) (k : Nat), k < 5 ∧ v = some (vI (nI k)) ∧ KI z A' ∧ (A' = A ∧ ((k = 0 ∧ oN A.2.1 ≤ 1500 ∧ ∃ D, IsDia A.2.1 D ∧ z.2 50 0 0 = (nI D).toInt64) ∨ (k = 1 ∧ ¬ oN A.2.1 ≤ 1500)))) (w_diameter G (by decide) (c_diameter G.c hK (fun h D hD _ u hu hs => ⟨nI D, rfl, sm_ot hs _, A, 0, by decide, rfl, hu.ot _, rfl, Or.inl ⟨rfl, h, D, hD, wJ_50 _ _⟩⟩) (fun h => ⟨rfl, Sm.rf, A, 1, by decide, rfl, hK, rfl, Or.inr ⟨rfl, h⟩⟩))) (by decide) (by omega) (fun v u hp => ?_) (fun X u hp => hp.elim)) trivial
  obtain ⟨hsu, A', k, hk5, rfl, hKu, hrel⟩ := hp
  have hQu : QI u A := hQ.fr hsu (by decide)
  iterate 2 refine hV.go rfl ?_
  refine hV.go rfl ?_
  have hm : Ctr l E 7 0 mX5_diameter [vR 30] u (fun v z => QI z A' ∧ Sm mdK u z ∧ z.1 30 0 0 = nI k ∧ (∃ r : Int32, v = some (vI r) ∧ (k = 0 → r.toInt64 = u.2 50 0 0))) noX := by
    obtain ⟨rfl, ⟨rfl, h, D, hD, ho⟩ | ⟨rfl, h⟩⟩ := hrel
    · refine m_diameter G.m hQu (fun _ D' hD' u hu h0 hs => ?_) (fun h' => (h' h).elim)
      obtain ⟨f1, g1, d1⟩ := hD.1
      obtain ⟨f2, g2, d2⟩ := hD'.1
      have e : D' = D := Nat.le_antisymm (hD.2 f2 D' d2) (hD'.2 f1 D d1)
      rw [e]
      exact ⟨hu, hs, h0, _, rfl, fun _ => ho.symm⟩
    · exact m_diameter G.m hQu (fun h' => (h h').elim) (fun _ u hu h0 hs => ⟨hu, hs, h0, _, rfl, fun z => by cases z⟩)
  refine And.intro (callP_r hm (by decide) (by omega) (fun v z hp => ?_)) trivial
  obtain ⟨hQz, hsz, hth, r, rfl, hans⟩ := hp
  refine hV.go rfl ?_
  iterate 2 refine hV.go rfl ?_
  refine And.intro (callP_v (m_thrown G.m) (by decide) (by omega) ?_) trivial
  refine topI (V := V) hth ?_
  iterate 2 refine hV.go rfl ?_
  refine And.intro (fun _ => ?_) (fun hc => absurd rfl hc)
  iterate 2 refine hV.go rfl ?_
  by_cases h0 : k = 0
  · subst h0
    refine And.intro (fun hc => absurd rfl (show ¬ (0 : Int32) = 0 from hc)) (fun _ => ?_)
    iterate 3 refine hV.go rfl ?_
    refine Exists.intro 0 (And.intro rfl (And.intro (by decide) ?_))
    refine topJ (V := V) (show z.2 50 0 0 = r.toInt64 by rw [(hsz 50 (by decide)).2]; exact (hans rfl).symm) ?_
    iterate 4 refine hV.go rfl ?_
    refine And.intro (fun _ => ?_) (fun hc => absurd (lg_eq.mpr rfl) hc)
    refine hV.go rfl ?_
    exact nx z A' _ _ _ _ (hKu.fr hsz (by decide)) hQz (by omega)
  · refine And.intro (fun _ => ?_) (fun hc => ?_)
    · refine hV.go rfl ?_
      exact nx z A' _ _ _ _ (hKu.fr hsz (by decide)) hQz (by omega)
    · have hc : nI k = nI 0 := Classical.not_not.mp hc
      exact (h0 (nI_inj hc (by omega) (by decide))).elim
theorem law_atDistance (G : GL l E) (hV : CLw l E b n xs B q_atDistance V) (hn : n ≤ 192) (hi : i + 3 < n) (hK : KI w A) (hQ : QI w A) (hc : c + 2 ≤ B) {x5 x6 x7 : Option AV} (nx : ∀ (u : Wd) (A : AS) (c2 : Nat) (x5 x6 x7 : Option AV), KI u A → QI u A → c2 ≤ c + 2 → V 1186 [some (vO b), some (vR 0), some (vR 30), some (vR 50), some (vI (nI i)), x5, x6, x7] [] u c2) : V 924 [some (vO b), some (vR 0), some (vR 30), some (vR 50), some (vI (nI i)), x5, x6, x7] [] w c := by
  refine hV.go rfl ?_
  iterate 4 refine hV.go rfl ?_
  refine topI (V := V) (nI_add i 1) ?_
  refine hV.go rfl ?_
  refine And.intro rfl (Exists.intro (i + 1) (And.intro rfl (And.intro (by omega) ?_)))
  refine hV.go rfl ?_
  refine hV.go rfl ?_
  refine And.intro (callP_x (xo := noX) (po := fun v z => Sm otK w z ∧ ∃ (A' : AS) (k : Nat), k < 5 ∧ v = some (vI (nI k)) ∧ KI z A' ∧ (A' = A ∧ ((k = 0 ∧ oN A.2.1 ≤ 1500 ∧ z.2 50 0 0 = (nI (cntD A.2.1 (xs (i + 1)))).toInt64) ∨ (k = 1 ∧ ¬ oN A.2.1 ≤ 1500)))) (w_atDistance G (by decide) (c_atDistance G.c hK (fun h u hu hs => ⟨_, rfl, sm_ot hs _, A, 0, by decide, rfl, hu.ot _, rfl, Or.inl ⟨rfl, h, wJ_50 _ _⟩⟩) (fun h => ⟨rfl, Sm.rf, A, 1, by decide, rfl, hK, rfl, Or.inr ⟨rfl, h⟩⟩))) (by decide) (by omega) (fun v u hp => ?_) (fun X u hp => hp.elim)) trivial
  obtain ⟨hsu, A', k, hk5, rfl, hKu, hrel⟩ := hp
  have hQu : QI u A := hQ.fr hsu (by decide)
  iterate 2 refine hV.go rfl ?_
  iterate 4 refine hV.go rfl ?_
  refine topI (V := V) (nI_add i 1) ?_
  refine hV.go rfl ?_
  refine And.intro rfl (Exists.intro (i + 1) (And.intro rfl (And.intro (by omega) ?_)))
  refine hV.go rfl ?_
  have hm : Ctr l E 7 0 mX5_atDistance [vR 30, vI (xs (i + 1))] u (fun v z => QI z A' ∧ Sm mdK u z ∧ z.1 30 0 0 = nI k ∧ (∃ r : Int32, v = some (vI r) ∧ (k = 0 → r.toInt64 = u.2 50 0 0))) noX := by
    obtain ⟨rfl, ⟨rfl, h, ho⟩ | ⟨rfl, h⟩⟩ := hrel
    · exact m_atDistance G.m hQu (fun _ u hu h0 hs => ⟨hu, hs, h0, _, rfl, fun _ => ho.symm⟩) (fun h' => (h' h).elim)
    · exact m_atDistance G.m hQu (fun h' => (h h').elim) (fun _ u hu h0 hs => ⟨hu, hs, h0, _, rfl, fun z => by cases z⟩)
  refine And.intro (callP_r hm (by decide) (by omega) (fun v z hp => ?_)) trivial
  obtain ⟨hQz, hsz, hth, r, rfl, hans⟩ := hp
  refine hV.go rfl ?_
  iterate 2 refine hV.go rfl ?_
  refine And.intro (callP_v (m_thrown G.m) (by decide) (by omega) ?_) trivial
  refine topI (V := V) hth ?_
  iterate 2 refine hV.go rfl ?_
  refine And.intro (fun _ => ?_) (fun hc => absurd rfl hc)
  iterate 2 refine hV.go rfl ?_
  by_cases h0 : k = 0
  · subst h0
    refine And.intro (fun hc => absurd rfl (show ¬ (0 : Int32) = 0 from hc)) (fun _ => ?_)
    iterate 3 refine hV.go rfl ?_
    refine Exists.intro 0 (And.intro rfl (And.intro (by decide) ?_))
    refine topJ (V := V) (show z.2 50 0 0 = r.toInt64 by rw [(hsz 50 (by decide)).2]; exact (hans rfl).symm) ?_
    iterate 4 refine hV.go rfl ?_
    refine And.intro (fun _ => ?_) (fun hc => absurd (lg_eq.mpr rfl) hc)
    refine hV.go rfl ?_
    exact nx z A' _ _ _ _ (hKu.fr hsz (by decide)) hQz (by omega)
  · refine And.intro (fun _ => ?_) (fun hc => ?_)
    · refine hV.go rfl ?_
      exact nx z A' _ _ _ _ (hKu.fr hsz (by decide)) hQz (by omega)
    · have hc : nI k = nI 0 := Classical.not_not.mp hc
      exact (h0 (nI_inj hc (by omega) (by decide))).elim
theorem law_solve (G : GL l E) (hV : CLw l E b n xs B q_solve V) (hn : n ≤ 192) (hi : i + 3 < n) (hK : KI w A) (hQ : QI w A) (hc : c + 2 ≤ B) {x5 x6 x7 : Option AV} (nx : ∀ (u : Wd) (A : AS) (c2 : Nat) (x5 x6 x7 : Option AV), KI u A → QI u A → c2 ≤ c + 2 → V 1186 [some (vO b), some (vR 0), some (vR 30), some (vR 50), some (vI (nI i)), x5, x6, x7] [] u c2) : V 980 [some (vO b), some (vR 0), some (vR 30), some (vR 50), some (vI (nI i)), x5, x6, x7] [] w c := by
  refine hV.go rfl ?_
  refine hV.go rfl ?_
  refine hV.go rfl ?_
  refine And.intro (callP_x (xo := noX) (po := fun v z => Sm otK w z ∧ ∃ (A' : AS) (k : Nat), k < 5 ∧ v = some (vI (nI k)) ∧ KI z A' ∧ ((k = 0 ∧ oN A.2.1 ≤ 1500 ∧ Gen A.2.1 A.2.2.1 ∧ ∃ d so, Dst (mvs A.2.1) A.2.2.1 d ∧ Gdy (mvs A.2.1) d A.2.2.1 so ∧ A' = (A.1, A.2.1, A.2.2.1, A.2.2.2.1, so) ∧ z.2 50 0 0 = (nI d).toInt64) ∨ (k = 1 ∧ A' = A ∧ ¬ oN A.2.1 ≤ 1500) ∨ (k = 2 ∧ A' = A ∧ oN A.2.1 ≤ 1500 ∧ ¬ Gen A.2.1 A.2.2.1))) (w_solve G (by decide) (c_solve G.c hK (fun h d so hg hd hy _ u hu hs => ⟨nI d, rfl, sm_ot hs _, _, 0, by decide, rfl, hu.ot _, Or.inl ⟨rfl, h, hg, d, so, hd, hy, rfl, wJ_50 _ _⟩⟩) (fun h hg u hu hs => Or.inr ⟨rfl, hs.mono (by decide), A, 2, by decide, rfl, hu, Or.inr (Or.inr ⟨rfl, rfl, h, hg⟩)⟩) (fun h => Or.inl ⟨rfl, Sm.rf, A, 1, by decide, rfl, hK, Or.inr (Or.inl ⟨rfl, rfl, h⟩)⟩))) (by decide) (by omega) (fun v u hp => ?_) (fun X u hp => hp.elim)) trivial
  obtain ⟨hsu, A', k, hk5, rfl, hKu, hrel⟩ := hp
  have hQu : QI u A := hQ.fr hsu (by decide)
  iterate 2 refine hV.go rfl ?_
  refine hV.go rfl ?_
  have hm : Ctr l E 7 0 mX5_solve [vR 30] u (fun v z => QI z A' ∧ Sm mdK u z ∧ z.1 30 0 0 = nI k ∧ (∃ r : Int32, v = some (vI r) ∧ (k = 0 → r.toInt64 = u.2 50 0 0))) noX := by
    rcases hrel with ⟨rfl, h, hg, d, so, hd, hy, rfl, ho⟩ | ⟨rfl, rfl, h⟩ | ⟨rfl, rfl, h, hg⟩
    · refine m_solve G.m hQu (fun _ d' so' hg' hd' hy' u hu h0 hs => ?_) (fun _ hg' => (hg' hg).elim) (fun h' => (h' h).elim)
      have ed := hd'.uniq hd
      subst ed
      have es := hy'.uniq hy
      subst es
      exact ⟨hu, hs, h0, _, rfl, fun _ => ho.symm⟩
    · exact m_solve G.m hQu (fun h' => (h h').elim) (fun h' => (h h').elim) (fun _ u hu h0 hs => ⟨hu, hs, h0, _, rfl, fun z => by cases z⟩)
    · exact m_solve G.m hQu (fun _ d' so' hg' => (hg hg').elim) (fun _ _ u hu h0 hs => ⟨hu, hs, h0, _, rfl, fun z => by cases z⟩) (fun h' => (h' h).elim)
  refine And.intro (callP_r hm (by decide) (by omega) (fun v z hp => ?_)) trivial
  obtain ⟨hQz, hsz, hth, r, rfl, hans⟩ := hp
  refine hV.go rfl ?_
  iterate 2 refine hV.go rfl ?_
  refine And.intro (callP_v (m_thrown G.m) (by decide) (by omega) ?_) trivial
  refine topI (V := V) hth ?_
  iterate 2 refine hV.go rfl ?_
  refine And.intro (fun _ => ?_) (fun hc => absurd rfl hc)
  iterate 2 refine hV.go rfl ?_
  by_cases h0 : k = 0
  · subst h0
    refine And.intro (fun hc => absurd rfl (show ¬ (0 : Int32) = 0 from hc)) (fun _ => ?_)
    iterate 3 refine hV.go rfl ?_
    refine Exists.intro 0 (And.intro rfl (And.intro (by decide) ?_))
    refine topJ (V := V) (show z.2 50 0 0 = r.toInt64 by rw [(hsz 50 (by decide)).2]; exact (hans rfl).symm) ?_
    iterate 4 refine hV.go rfl ?_
    refine And.intro (fun _ => ?_) (fun hc => absurd (lg_eq.mpr rfl) hc)
    refine hV.go rfl ?_
    exact nx z A' _ _ _ _ (hKu.fr hsz (by decide)) hQz (by omega)
  · refine And.intro (fun _ => ?_) (fun hc => ?_)
    · refine hV.go rfl ?_
      exact nx z A' _ _ _ _ (hKu.fr hsz (by decide)) hQz (by omega)
    · have hc : nI k = nI 0 := Classical.not_not.mp hc
      exact (h0 (nI_inj hc (by omega) (by decide))).elim
theorem law_solution (G : GL l E) (hV : CLw l E b n xs B q_solution V) (hn : n ≤ 192) (hi : i + 3 < n) (hK : KI w A) (hQ : QI w A) (hc : c + 2 ≤ B) {x5 x6 x7 : Option AV} (nx : ∀ (u : Wd) (A : AS) (c2 : Nat) (x5 x6 x7 : Option AV), KI u A → QI u A → c2 ≤ c + 2 → V 1186 [some (vO b), some (vR 0), some (vR 30), some (vR 50), some (vI (nI i)), x5, x6, x7] [] u c2) : V 1024 [some (vO b), some (vR 0), some (vR 30), some (vR 50), some (vI (nI i)), x5, x6, x7] [] w c := by
  refine hV.go rfl ?_
  iterate 4 refine hV.go rfl ?_
  refine topI (V := V) (nI_add i 1) ?_
  refine hV.go rfl ?_
  refine And.intro rfl (Exists.intro (i + 1) (And.intro rfl (And.intro (by omega) ?_)))
  refine hV.go rfl ?_
  refine And.intro (callP_r (po := fun v z => Sm clK w z ∧ ∃ (A' : AS) (r : Int32), v = some (vI r) ∧ KI z A' ∧ (A' = A ∧ ((∃ j m, A.2.2.2.2[j]? = some m ∧ xs (i + 1) = nI j ∧ r = nI m) ∨ ((xs (i + 1) < 0 ∨ nI A.2.2.2.2.length ≤ xs (i + 1)) ∧ r = -1)))) (c_solution G.c hK (fun j m a e => ⟨Sm.rf, A, nI m, rfl, hK, rfl, Or.inl ⟨j, m, a, e, rfl⟩⟩) (fun h => ⟨Sm.rf, A, -1, rfl, hK, rfl, Or.inr ⟨h, rfl⟩⟩)) (by decide) (by omega) (fun v u hp => ?_)) trivial
  obtain ⟨hsu, A', r, rfl, hKu, hrel⟩ := hp
  have hQu : QI u A := hQ.fr hsu (by decide)
  refine hV.go rfl ?_
  iterate 4 refine hV.go rfl ?_
  refine topI (V := V) (nI_add i 1) ?_
  refine hV.go rfl ?_
  refine And.intro rfl (Exists.intro (i + 1) (And.intro rfl (And.intro (by omega) ?_)))
  refine hV.go rfl ?_
  have hm : Ctr l E 1 0 mX5_solution [vR 30, vI (xs (i + 1))] u (fun v z => QI z A' ∧ Sm mdK u z ∧ v = some (vI r)) noX := by
    have h15 := hQ.2.2.1.1
    obtain ⟨rfl, ⟨j, m, a, e, rfl⟩ | ⟨h, rfl⟩⟩ := hrel
    · have hj := (List.getElem?_eq_some_iff.mp a).1
      refine m_solution G.m hQu (fun j' m' a' e' u hu hs => ?_) (fun h => (bnd_no hj (by omega) (by rw [← e]; exact h)).elim)
      have hj' := (List.getElem?_eq_some_iff.mp a').1
      have ej : j' = j := nI_inj (e'.symm.trans e) (by omega) (by omega)
      subst ej
      rw [a] at a'
      cases a'
      exact ⟨hu, hs, rfl⟩
    · refine m_solution G.m hQu (fun j' m' a' e' => ?_) (fun _ u hu hs => ⟨hu, hs, rfl⟩)
      have hj' := (List.getElem?_eq_some_iff.mp a').1
      exact (bnd_no hj' (by omega) (by rw [← e']; exact h)).elim
  refine And.intro (callP_r hm (by decide) (by omega) (fun v z hp => ?_)) trivial
  obtain ⟨hQz, hsz, rfl⟩ := hp
  refine hV.go rfl ?_
  refine And.intro (fun _ => nx z A' c _ _ _ (hKu.fr hsz (by decide)) hQz (by omega)) (fun hc => absurd rfl hc)
theorem law_within (G : GL l E) (hV : CLw l E b n xs B q_within V) (hn : n ≤ 192) (hi : i + 3 < n) (hK : KI w A) (hQ : QI w A) (hc : c + 2 ≤ B) {x5 x6 x7 : Option AV} (nx : ∀ (u : Wd) (A : AS) (c2 : Nat) (x5 x6 x7 : Option AV), KI u A → QI u A → c2 ≤ c + 2 → V 1186 [some (vO b), some (vR 0), some (vR 30), some (vR 50), some (vI (nI i)), x5, x6, x7] [] u c2) : V 1049 [some (vO b), some (vR 0), some (vR 30), some (vR 50), some (vI (nI i)), x5, x6, x7] [] w c := by
  refine hV.go rfl ?_
  iterate 4 refine hV.go rfl ?_
  refine topI (V := V) (nI_add i 1) ?_
  refine hV.go rfl ?_
  refine And.intro rfl (Exists.intro (i + 1) (And.intro rfl (And.intro (by omega) ?_)))
  refine hV.go rfl ?_
  refine hV.go rfl ?_
  refine And.intro (callP_x (xo := noX) (po := fun v z => Sm otK w z ∧ ∃ (A' : AS) (k : Nat), k < 5 ∧ v = some (vI (nI k)) ∧ KI z A' ∧ (A' = A ∧ ((k = 0 ∧ ∃ m y, m ≤ 4 ∧ xs (i + 1) = nI m ∧ WT (mvs A.2.1) A.2.2.1 m y ∧ z.2 50 0 0 = y.toInt64) ∨ (k = 1 ∧ (xs (i + 1) < 0 ∨ nI 5 ≤ xs (i + 1)))))) (w_within G (by decide) (c_within G.c hK (fun m hm e u y hy hu hs => ⟨y, rfl, sm_ot hs _, A, 0, by decide, rfl, hu.ot _, rfl, Or.inl ⟨rfl, m, y, hm, e, hy, wJ_50 _ _⟩⟩) (fun h => ⟨rfl, Sm.rf, A, 1, by decide, rfl, hK, rfl, Or.inr ⟨rfl, h⟩⟩))) (by decide) (by omega) (fun v u hp => ?_) (fun X u hp => hp.elim)) trivial
  obtain ⟨hsu, A', k, hk5, rfl, hKu, hrel⟩ := hp
  have hQu : QI u A := hQ.fr hsu (by decide)
  iterate 2 refine hV.go rfl ?_
  iterate 4 refine hV.go rfl ?_
  refine topI (V := V) (nI_add i 1) ?_
  refine hV.go rfl ?_
  refine And.intro rfl (Exists.intro (i + 1) (And.intro rfl (And.intro (by omega) ?_)))
  refine hV.go rfl ?_
  have hm : Ctr l E 3 0 mX5_within [vR 30, vI (xs (i + 1))] u (fun v z => QI z A' ∧ Sm mdK u z ∧ z.1 30 0 0 = nI k ∧ (∃ r : Int32, v = some (vI r) ∧ (k = 0 → r.toInt64 = u.2 50 0 0))) noX := by
    obtain ⟨rfl, ⟨rfl, m, y, hm, e, hy, ho⟩ | ⟨rfl, h⟩⟩ := hrel
    · refine m_within G.m hQu (fun m' hm' e' u y' hy' hu h0 hs => ?_) (fun h => (bnd_no (k := m) (n := 5) (by omega) (by omega) (by rw [← e]; exact h)).elim)
      have em : m' = m := nI_inj (e'.symm.trans e) (by omega) (by omega)
      subst em
      rw [hy'.uniq hy]
      exact ⟨hu, hs, h0, _, rfl, fun _ => ho.symm⟩
    · exact m_within G.m hQu (fun m' hm' e' => (bnd_no (k := m') (n := 5) (by omega) (by omega) (by rw [← e']; exact h)).elim) (fun _ u hu h0 hs => ⟨hu, hs, h0, _, rfl, fun z => by cases z⟩)
  refine And.intro (callP_r hm (by decide) (by omega) (fun v z hp => ?_)) trivial
  obtain ⟨hQz, hsz, hth, r, rfl, hans⟩ := hp
  refine hV.go rfl ?_
  iterate 2 refine hV.go rfl ?_
  refine And.intro (callP_v (m_thrown G.m) (by decide) (by omega) ?_) trivial
  refine topI (V := V) hth ?_
  iterate 2 refine hV.go rfl ?_
  refine And.intro (fun _ => ?_) (fun hc => absurd rfl hc)
  iterate 2 refine hV.go rfl ?_
  by_cases h0 : k = 0
  · subst h0
    refine And.intro (fun hc => absurd rfl (show ¬ (0 : Int32) = 0 from hc)) (fun _ => ?_)
    iterate 3 refine hV.go rfl ?_
    refine Exists.intro 0 (And.intro rfl (And.intro (by decide) ?_))
    refine topJ (V := V) (show z.2 50 0 0 = r.toInt64 by rw [(hsz 50 (by decide)).2]; exact (hans rfl).symm) ?_
    iterate 4 refine hV.go rfl ?_
    refine And.intro (fun _ => ?_) (fun hc => absurd (lg_eq.mpr rfl) hc)
    refine hV.go rfl ?_
    exact nx z A' _ _ _ _ (hKu.fr hsz (by decide)) hQz (by omega)
  · refine And.intro (fun _ => ?_) (fun hc => ?_)
    · refine hV.go rfl ?_
      exact nx z A' _ _ _ _ (hKu.fr hsz (by decide)) hQz (by omega)
    · have hc : nI k = nI 0 := Classical.not_not.mp hc
      exact (h0 (nI_inj hc (by omega) (by decide))).elim
theorem law_write (G : GL l E) (hV : CLw l E b n xs B q_write V) (hn : n ≤ 192) (hi : i + 3 < n) (hK : KI w A) (hQ : QI w A) (hc : c + 2 ≤ B) {x5 x6 x7 : Option AV} (nx : ∀ (u : Wd) (A : AS) (c2 : Nat) (x5 x6 x7 : Option AV), KI u A → QI u A → c2 ≤ c + 2 → V 1186 [some (vO b), some (vR 0), some (vR 30), some (vR 50), some (vI (nI i)), x5, x6, x7] [] u c2) : V 1105 [some (vO b), some (vR 0), some (vR 30), some (vR 50), some (vI (nI i)), x5, x6, x7] [] w c := by
  refine hV.go rfl ?_
  iterate 4 refine hV.go rfl ?_
  refine topI (V := V) (nI_add i 1) ?_
  refine hV.go rfl ?_
  refine And.intro rfl (Exists.intro (i + 1) (And.intro rfl (And.intro (by omega) ?_)))
  refine hV.go rfl ?_
  refine hV.go rfl ?_
  refine And.intro (callP_x (xo := noX) (po := fun v z => Sm otK w z ∧ ∃ (A' : AS) (k : Nat), k < 5 ∧ v = some (vI (nI k)) ∧ KI z A' ∧ ((k = 0 ∧ ∃ f, ((xs (i + 1) = -1 ∧ f = A.2.2.1) ∨ ∃ j, A.2.1[j]? = some f ∧ xs (i + 1) = nI j) ∧ A' = (A.1, A.2.1, A.2.2.1, wrL f 12 0 [], A.2.2.2.2) ∧ z.2 50 0 0 = (nI (wrL f 12 0 []).length).toInt64) ∨ (k = 1 ∧ A' = A ∧ xs (i + 1) ≠ -1 ∧ (xs (i + 1) < 0 ∨ nI A.2.1.length ≤ xs (i + 1))))) (w_write G (by decide) (c_write G.c hK (fun f hf u hu hs => ⟨_, rfl, sm_ot hs _, _, 0, by decide, rfl, hu.ot _, Or.inl ⟨rfl, f, hf, rfl, wJ_50 _ _⟩⟩) (fun h1 h => ⟨rfl, Sm.rf, A, 1, by decide, rfl, hK, Or.inr ⟨rfl, rfl, h1, h⟩⟩))) (by decide) (by omega) (fun v u hp => ?_) (fun X u hp => hp.elim)) trivial
  obtain ⟨hsu, A', k, hk5, rfl, hKu, hrel⟩ := hp
  have hQu : QI u A := hQ.fr hsu (by decide)
  iterate 2 refine hV.go rfl ?_
  iterate 4 refine hV.go rfl ?_
  refine topI (V := V) (nI_add i 1) ?_
  refine hV.go rfl ?_
  refine And.intro rfl (Exists.intro (i + 1) (And.intro rfl (And.intro (by omega) ?_)))
  refine hV.go rfl ?_
  have hm : Ctr l E 3 0 mX5_write [vR 30, vI (xs (i + 1))] u (fun v z => QI z A' ∧ Sm mdK u z ∧ z.1 30 0 0 = nI k ∧ (∃ r : Int32, v = some (vI r) ∧ (k = 0 → r.toInt64 = u.2 50 0 0))) noX := by
    have n5 := hQ.1.2.1.1
    have key : ∀ f f', ((xs (i + 1) = -1 ∧ f = A.2.2.1) ∨ ∃ j, A.2.1[j]? = some f ∧ xs (i + 1) = nI j) → ((xs (i + 1) = -1 ∧ f' = A.2.2.1) ∨ ∃ j, A.2.1[j]? = some f' ∧ xs (i + 1) = nI j) → f' = f := by
      rintro f f' (⟨a, rfl⟩ | ⟨j, a, e⟩) (⟨a', rfl⟩ | ⟨j', a', e'⟩)
      · rfl
      · have hj := (List.getElem?_eq_some_iff.mp a').1
        exact (nI_m1 (by omega) (e'.symm.trans a)).elim
      · have hj := (List.getElem?_eq_some_iff.mp a).1
        exact (nI_m1 (by omega) (e.symm.trans a')).elim
      · have hj := (List.getElem?_eq_some_iff.mp a).1
        have hj' := (List.getElem?_eq_some_iff.mp a').1
        have ej : j' = j := nI_inj (e'.symm.trans e) (by omega) (by omega)
        subst ej
        rw [a] at a'
        exact (Option.some.inj a').symm
    have nob : ∀ f, ((xs (i + 1) = -1 ∧ f = A.2.2.1) ∨ ∃ j, A.2.1[j]? = some f ∧ xs (i + 1) = nI j) → xs (i + 1) ≠ -1 → (xs (i + 1) < 0 ∨ nI A.2.1.length ≤ xs (i + 1)) → False := by
      rintro f (⟨a, -⟩ | ⟨j, a, e⟩) h1 h
      · exact h1 a
      · have hj := (List.getElem?_eq_some_iff.mp a).1
        exact bnd_no hj (by omega) (by rw [← e]; exact h)
    rcases hrel with ⟨rfl, f, hf, rfl, ho⟩ | ⟨rfl, rfl, h1, h⟩
    · refine m_write G.m hQu (fun f' hf' u hu h0 hs => ?_) (fun h1 h => (nob f hf h1 h).elim)
      have ef := key f f' hf hf'
      subst ef
      exact ⟨hu, hs, h0, _, rfl, fun _ => ho.symm⟩
    · exact m_write G.m hQu (fun f' hf' => (nob f' hf' h1 h).elim) (fun _ _ u hu h0 hs => ⟨hu, hs, h0, _, rfl, fun z => by cases z⟩)
  refine And.intro (callP_r hm (by decide) (by omega) (fun v z hp => ?_)) trivial
  obtain ⟨hQz, hsz, hth, r, rfl, hans⟩ := hp
  refine hV.go rfl ?_
  iterate 2 refine hV.go rfl ?_
  refine And.intro (callP_v (m_thrown G.m) (by decide) (by omega) ?_) trivial
  refine topI (V := V) hth ?_
  iterate 2 refine hV.go rfl ?_
  refine And.intro (fun _ => ?_) (fun hc => absurd rfl hc)
  iterate 2 refine hV.go rfl ?_
  by_cases h0 : k = 0
  · subst h0
    refine And.intro (fun hc => absurd rfl (show ¬ (0 : Int32) = 0 from hc)) (fun _ => ?_)
    iterate 3 refine hV.go rfl ?_
    refine Exists.intro 0 (And.intro rfl (And.intro (by decide) ?_))
    refine topJ (V := V) (show z.2 50 0 0 = r.toInt64 by rw [(hsz 50 (by decide)).2]; exact (hans rfl).symm) ?_
    iterate 4 refine hV.go rfl ?_
    refine And.intro (fun _ => ?_) (fun hc => absurd (lg_eq.mpr rfl) hc)
    refine hV.go rfl ?_
    exact nx z A' _ _ _ _ (hKu.fr hsz (by decide)) hQz (by omega)
  · refine And.intro (fun _ => ?_) (fun hc => ?_)
    · refine hV.go rfl ?_
      exact nx z A' _ _ _ _ (hKu.fr hsz (by decide)) hQz (by omega)
    · have hc : nI k = nI 0 := Classical.not_not.mp hc
      exact (h0 (nI_inj hc (by omega) (by decide))).elim
theorem law_character (G : GL l E) (hV : CLw l E b n xs B q_character V) (hn : n ≤ 192) (hi : i + 3 < n) (hK : KI w A) (hQ : QI w A) (hc : c + 2 ≤ B) {x5 x6 x7 : Option AV} (nx : ∀ (u : Wd) (A : AS) (c2 : Nat) (x5 x6 x7 : Option AV), KI u A → QI u A → c2 ≤ c + 2 → V 1186 [some (vO b), some (vR 0), some (vR 30), some (vR 50), some (vI (nI i)), x5, x6, x7] [] u c2) : V 1161 [some (vO b), some (vR 0), some (vR 30), some (vR 50), some (vI (nI i)), x5, x6, x7] [] w c := by
  refine hV.go rfl ?_
  iterate 4 refine hV.go rfl ?_
  refine topI (V := V) (nI_add i 1) ?_
  refine hV.go rfl ?_
  refine And.intro rfl (Exists.intro (i + 1) (And.intro rfl (And.intro (by omega) ?_)))
  refine hV.go rfl ?_
  refine And.intro (callP_v (c_character (xs (i + 1)) G.c hK) (by decide) (by omega) ?_) trivial
  refine hV.go rfl ?_
  iterate 4 refine hV.go rfl ?_
  refine topI (V := V) (nI_add i 1) ?_
  refine hV.go rfl ?_
  refine And.intro rfl (Exists.intro (i + 1) (And.intro rfl (And.intro (by omega) ?_)))
  refine hV.go rfl ?_
  refine And.intro (callP_r (po := fun v z => QI z A ∧ Sm mdK w z ∧ v = some (vI (chI A.2.2.2.1 (xs (i + 1))))) (m_character G.m hQ (fun u hu hs => ⟨hu, hs, rfl⟩)) (by decide) (by omega) (fun v z hp => ?_)) trivial
  obtain ⟨hQz, hsz, rfl⟩ := hp
  refine hV.go rfl ?_
  refine And.intro (fun _ => nx z A c _ _ _ (hK.fr hsz (by decide)) hQz (by omega)) (fun hc => absurd rfl hc)
end
