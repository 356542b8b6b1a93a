/-! the law's cases -/
section
variable {l : Launch} {E : En} {b n B i c : Nat} {xs : Nat → Int32} {w : Wd} {A : AS} {V : Nat → List (Option AV) → List AV → Wd → Nat → Prop}
theorem law_stickers (G : GL l E) (hV : CLw l E b n xs B q_stickers V) (hn : n ≤ 192) (hi : i + 3 < n) (hK : KI w A) (hQ : QI w A) (hc : c + 2 ≤ B) {x5 x6 x7 : Option AV} (nx : ∀ (u : Wd) (A : AS) (c2 : Nat) (x5 x6 x7 : Option AV), KI u A → QI u A → c2 ≤ c + 2 → V 1186 [some (vO b), some (vR 0), some (vR 30), some (vR 50), some (vI (nI i)), x5, x6, x7] [] u c2) : V 148 [some (vO b), some (vR 0), some (vR 30), some (vR 50), some (vI (nI i)), x5, x6, x7] [] w c := by
  refine hV.go rfl ?_
  iterate 4 refine hV.go rfl ?_
  refine topI (V := V) (nI_add i 1) ?_
  refine hV.go rfl ?_
  refine And.intro rfl (Exists.intro (i + 1) (And.intro rfl (And.intro (by omega) ?_)))
  refine hV.go rfl ?_
  refine And.intro (callP_r (po := fun v z => Sm clK w z ∧ ∃ (A' : AS) (r : Int32), v = some (vI r) ∧ KI z A' ∧ ((∃ m, 1 ≤ m ∧ m ≤ 12 ∧ xs (i + 1) = nI m ∧ r = 1 ∧ A' = (m, [], idp, A.2.2.2.1, A.2.2.2.2)) ∨ ((∀ m, 1 ≤ m → m ≤ 12 → xs (i + 1) ≠ nI m) ∧ r = 0 ∧ A' = A))) (c_stickers G.c hK (fun m a b e u hu hs => ⟨hs, _, 1, rfl, hu, Or.inl ⟨m, a, b, e, rfl, rfl⟩⟩) (fun h => ⟨Sm.rf, A, 0, rfl, hK, Or.inr ⟨h, rfl, rfl⟩⟩)) (by decide) (by omega) (fun v u hp => ?_)) trivial
  obtain ⟨hsu, A', r, rfl, hKu, hrel⟩ := hp
  have hQu : QI u A := hQ.fr hsu (by decide)
  refine hV.go rfl ?_
  iterate 4 refine hV.go rfl ?_
  refine topI (V := V) (nI_add i 1) ?_
  refine hV.go rfl ?_
  refine And.intro rfl (Exists.intro (i + 1) (And.intro rfl (And.intro (by omega) ?_)))
  refine hV.go rfl ?_
  have hm : Ctr l E 1 0 mX5_stickers [vR 30, vI (xs (i + 1))] u (fun v z => QI z A' ∧ Sm mdK u z ∧ v = some (vI r)) noX := by
    rcases hrel with ⟨m, a, b, e, rfl, rfl⟩ | ⟨h, rfl, rfl⟩
    · refine m_stickers G.m hQu (fun m' a' b' e' u hu hs => ?_) (fun h => (h m a b e).elim)
      have em : m' = m := nI_inj (e'.symm.trans e) (by omega) (by omega)
      subst em
      exact ⟨hu, hs, rfl⟩
    · exact m_stickers G.m hQu (fun m' a' b' e' => (h m' a' b' e').elim) (fun _ u hu hs => ⟨hu, hs, rfl⟩)
  refine And.intro (callP_r hm (by decide) (by omega) (fun v z hp => ?_)) trivial
  obtain ⟨hQz, hsz, rfl⟩ := hp
  refine hV.go rfl ?_
  refine And.intro (fun _ => nx z A' c _ _ _ (hKu.fr hsz (by decide)) hQz (by omega)) (fun hc => absurd rfl hc)
theorem law_type (G : GL l E) (hV : CLw l E b n xs B q_type V) (hn : n ≤ 192) (hi : i + 3 < n) (hK : KI w A) (hQ : QI w A) (hc : c + 2 ≤ B) {x5 x6 x7 : Option AV} (nx : ∀ (u : Wd) (A : AS) (c2 : Nat) (x5 x6 x7 : Option AV), KI u A → QI u A → c2 ≤ c + 2 → V 1186 [some (vO b), some (vR 0), some (vR 30), some (vR 50), some (vI (nI i)), x5, x6, x7] [] u c2) : V 173 [some (vO b), some (vR 0), some (vR 30), some (vR 50), some (vI (nI i)), x5, x6, x7] [] w c := by
  refine hV.go rfl ?_
  iterate 4 refine hV.go rfl ?_
  refine topI (V := V) (nI_add i 1) ?_
  refine hV.go rfl ?_
  refine And.intro rfl (Exists.intro (i + 1) (And.intro rfl (And.intro (by omega) ?_)))
  iterate 3 refine hV.go rfl ?_
  iterate 4 refine hV.go rfl ?_
  refine topI (V := V) (nI_add i 2) ?_
  refine hV.go rfl ?_
  refine And.intro rfl (Exists.intro (i + 2) (And.intro rfl (And.intro (by omega) ?_)))
  iterate 4 refine hV.go rfl ?_
  iterate 4 refine hV.go rfl ?_
  refine topI (V := V) (nI_add i 3) ?_
  refine hV.go rfl ?_
  refine And.intro rfl (Exists.intro (i + 3) (And.intro rfl (And.intro (by omega) ?_)))
  refine hV.go rfl ?_
  refine And.intro (callP_r (po := fun v z => Sm clK w z ∧ ∃ (A' : AS) (r : Int32), v = some (vI r) ∧ KI z A' ∧ ((∃ m, xs (i + 3) = nI m ∧ tyOk A.2.2.2.1 (((xs (i + 1)).toInt64 <<< (((Int8.ofInt 32).toInt32).toInt64 &&& 63)) ||| ((xs (i + 2)).toInt64 &&& 4294967295)) m ∧ r = 1 ∧ A' = (A.1, A.2.1, A.2.2.1, A.2.2.2.1 ++ (List.range m).map (byt (((xs (i + 1)).toInt64 <<< (((Int8.ofInt 32).toInt32).toInt64 &&& 63)) ||| ((xs (i + 2)).toInt64 &&& 4294967295))), A.2.2.2.2)) ∨ ((∀ m, xs (i + 3) = nI m → ¬ tyOk A.2.2.2.1 (((xs (i + 1)).toInt64 <<< (((Int8.ofInt 32).toInt32).toInt64 &&& 63)) ||| ((xs (i + 2)).toInt64 &&& 4294967295)) m) ∧ r = 0 ∧ A' = A))) (c_type G.c hK (fun m e h u hu hs => ⟨hs, _, 1, rfl, hu, Or.inl ⟨m, e, h, rfl, rfl⟩⟩) (fun h => ⟨Sm.rf, A, 0, rfl, hK, Or.inr ⟨h, rfl, rfl⟩⟩)) (by decide) (by omega) (fun v u hp => ?_)) trivial
  obtain ⟨hsu, A', r, rfl, hKu, hrel⟩ := hp
  have hQu : QI u A := hQ.fr hsu (by decide)
  refine hV.go rfl ?_
  iterate 4 refine hV.go rfl ?_
  refine topI (V := V) (nI_add i 1) ?_
  refine hV.go rfl ?_
  refine And.intro rfl (Exists.intro (i + 1) (And.intro rfl (And.intro (by omega) ?_)))
  iterate 3 refine hV.go rfl ?_
  iterate 4 refine hV.go rfl ?_
  refine topI (V := V) (nI_add i 2) ?_
  refine hV.go rfl ?_
  refine And.intro rfl (Exists.intro (i + 2) (And.intro rfl (And.intro (by omega) ?_)))
  iterate 4 refine hV.go rfl ?_
  iterate 4 refine hV.go rfl ?_
  refine topI (V := V) (nI_add i 3) ?_
  refine hV.go rfl ?_
  refine And.intro rfl (Exists.intro (i + 3) (And.intro rfl (And.intro (by omega) ?_)))
  refine hV.go rfl ?_
  have hm : Ctr l E 1 0 mX5_type [vR 30, vJ (((xs (i + 1)).toInt64 <<< (((Int8.ofInt 32).toInt32).toInt64 &&& 63)) ||| ((xs (i + 2)).toInt64 &&& 4294967295)), vI (xs (i + 3))] u (fun v z => QI z A' ∧ Sm mdK u z ∧ v = some (vI r)) noX := by
    rcases hrel with ⟨m, e, h, rfl, rfl⟩ | ⟨h, rfl, rfl⟩
    · refine m_type G.m hQu (fun m' e' h' u hu hs => ?_) (fun h' => (h' m e h).elim)
      have em : m' = m := nI_inj (e'.symm.trans e) (by have := h'.2.1; omega) (by have := h.2.1; omega)
      subst em
      exact ⟨hu, hs, rfl⟩
    · exact m_type G.m hQu (fun m' e' h' => (h m' e' h').elim) (fun _ u hu hs => ⟨hu, hs, rfl⟩)
  refine And.intro (callP_r hm (by decide) (by omega) (fun v z hp => ?_)) trivial
  obtain ⟨hQz, hsz, rfl⟩ := hp
  refine hV.go rfl ?_
  refine And.intro (fun _ => nx z A' c _ _ _ (hKu.fr hsz (by decide)) hQz (by omega)) (fun hc => absurd rfl hc)
theorem law_cut (G : GL l E) (hV : CLw l E b n xs B q_cut V) (hn : n ≤ 192) (hi : i + 3 < n) (hK : KI w A) (hQ : QI w A) (hc : c + 2 ≤ B) {x5 x6 x7 : Option AV} (nx : ∀ (u : Wd) (A : AS) (c2 : Nat) (x5 x6 x7 : Option AV), KI u A → QI u A → c2 ≤ c + 2 → V 1186 [some (vO b), some (vR 0), some (vR 30), some (vR 50), some (vI (nI i)), x5, x6, x7] [] u c2) : V 242 [some (vO b), some (vR 0), some (vR 30), some (vR 50), some (vI (nI i)), x5, x6, x7] [] w c := by
  refine hV.go rfl ?_
  iterate 4 refine hV.go rfl ?_
  refine topI (V := V) (nI_add i 1) ?_
  refine hV.go rfl ?_
  refine And.intro rfl (Exists.intro (i + 1) (And.intro rfl (And.intro (by omega) ?_)))
  refine hV.go rfl ?_
  refine And.intro (callP_r (po := fun v z => Sm clK w z ∧ ∃ (A' : AS) (r : Int32), v = some (vI r) ∧ KI z A' ∧ ((∃ m, xs (i + 1) = nI m ∧ m ≤ A.2.2.2.1.length ∧ r = 1 ∧ A' = (A.1, A.2.1, A.2.2.1, A.2.2.2.1.take m, A.2.2.2.2)) ∨ ((∀ m, xs (i + 1) = nI m → ¬ m ≤ A.2.2.2.1.length) ∧ r = 0 ∧ A' = A))) (c_cut G.c hK (fun m e h u hu hs => ⟨hs, _, 1, rfl, hu, Or.inl ⟨m, e, h, rfl, rfl⟩⟩) (fun h => ⟨Sm.rf, A, 0, rfl, hK, Or.inr ⟨h, rfl, rfl⟩⟩)) (by decide) (by omega) (fun v u hp => ?_)) trivial
  obtain ⟨hsu, A', r, rfl, hKu, hrel⟩ := hp
  have hQu : QI u A := hQ.fr hsu (by decide)
  refine hV.go rfl ?_
  iterate 4 refine hV.go rfl ?_
  refine topI (V := V) (nI_add i 1) ?_
  refine hV.go rfl ?_
  refine And.intro rfl (Exists.intro (i + 1) (And.intro rfl (And.intro (by omega) ?_)))
  refine hV.go rfl ?_
  have hm : Ctr l E 1 0 mX5_cut [vR 30, vI (xs (i + 1))] u (fun v z => QI z A' ∧ Sm mdK u z ∧ v = some (vI r)) noX := by
    have h48 := hQ.2.1.2.1
    rcases hrel with ⟨m, e, h, rfl, rfl⟩ | ⟨h, rfl, rfl⟩
    · refine m_cut G.m hQu (fun m' e' h' u hu hs => ?_) (fun h' => (h' m e h).elim)
      have em : m' = m := nI_inj (e'.symm.trans e) (by omega) (by omega)
      subst em
      exact ⟨hu, hs, rfl⟩
    · exact m_cut G.m hQu (fun m' e' h' => (h m' e' h').elim) (fun _ u hu hs => ⟨hu, hs, rfl⟩)
  refine And.intro (callP_r hm (by decide) (by omega) (fun v z hp => ?_)) trivial
  obtain ⟨hQz, hsz, rfl⟩ := hp
  refine hV.go rfl ?_
  refine And.intro (fun _ => nx z A' c _ _ _ (hKu.fr hsz (by decide)) hQz (by omega)) (fun hc => absurd rfl hc)
theorem law_turn (G : GL l E) (hV : CLw l E b n xs B q_turn V) (hn : n ≤ 192) (hi : i + 3 < n) (hK : KI w A) (hQ : QI w A) (hc : c + 2 ≤ B) {x5 x6 x7 : Option AV} (nx : ∀ (u : Wd) (A : AS) (c2 : Nat) (x5 x6 x7 : Option AV), KI u A → QI u A → c2 ≤ c + 2 → V 1186 [some (vO b), some (vR 0), some (vR 30), some (vR 50), some (vI (nI i)), x5, x6, x7] [] u c2) : V 267 [some (vO b), some (vR 0), some (vR 30), some (vR 50), some (vI (nI i)), x5, x6, x7] [] w c := by
  refine hV.go rfl ?_
  refine hV.go rfl ?_
  refine hV.go rfl ?_
  refine And.intro (callP_x (xo := noX) (po := fun v z => Sm otK w z ∧ ∃ (A' : AS) (k : Nat), k < 5 ∧ v = some (vI (nI k)) ∧ KI z A' ∧ ((k = 1 ∧ A' = A ∧ ¬ (rdA A.2.2.2.1).1 = 1) ∨ (k = 2 ∧ A' = A ∧ (rdA A.2.2.2.1).1 = 1 ∧ ¬ (∀ x ∈ (rdA A.2.2.2.1).2.1, x.1 < A.1)) ∨ (k = 3 ∧ A' = A ∧ (rdA A.2.2.2.1).1 = 1 ∧ (∀ x ∈ (rdA A.2.2.2.1).2.1, x.1 < A.1) ∧ ¬ ndN (rdA A.2.2.2.1).2.1) ∨ (k = 4 ∧ A' = A ∧ (rdA A.2.2.2.1).1 = 1 ∧ (∀ x ∈ (rdA A.2.2.2.1).2.1, x.1 < A.1) ∧ ndN (rdA A.2.2.2.1).2.1 ∧ A.2.1.length = 5) ∨ (k = 0 ∧ (rdA A.2.2.2.1).1 = 1 ∧ (∀ x ∈ (rdA A.2.2.2.1).2.1, x.1 < A.1) ∧ ndN (rdA A.2.2.2.1).2.1 ∧ A.2.1.length < 5 ∧ A' = (A.1, A.2.1 ++ [pR (rdA A.2.2.2.1).2.1 (rdA A.2.2.2.1).2.1.length], A.2.2.1, A.2.2.2.1, A.2.2.2.2) ∧ z.2 50 0 0 = (nI A.2.1.length).toInt64))) (w_turn G (by decide) (c_turn G.c hK (fun p u hu hs => Or.inl ⟨rfl, hs.mono (by decide), A, 1, by decide, rfl, hu, Or.inl ⟨rfl, rfl, p⟩⟩) (fun p q u hu hs => Or.inr (Or.inl ⟨rfl, hs.mono (by decide), A, 2, by decide, rfl, hu, Or.inr (Or.inl ⟨rfl, rfl, p, q⟩)⟩)) (fun p q r u hu hs => Or.inr (Or.inr (Or.inl ⟨rfl, hs.mono (by decide), A, 3, by decide, rfl, hu, Or.inr (Or.inr (Or.inl ⟨rfl, rfl, p, q, r⟩))⟩))) (fun p q r f u hu hs => Or.inr (Or.inr (Or.inr ⟨rfl, hs.mono (by decide), A, 4, by decide, rfl, hu, Or.inr (Or.inr (Or.inr (Or.inl ⟨rfl, rfl, p, q, r, f⟩)))⟩))) (fun p q r f u hu hs => ⟨_, rfl, sm_ot hs _, _, 0, by decide, rfl, hu.ot _, Or.inr (Or.inr (Or.inr (Or.inr ⟨rfl, p, q, r, f, rfl, wJ_50 _ _⟩)))⟩))) (by decide) (by omega) (fun v u hp => ?_) (fun X u hp => hp.elim)) trivial
  obtain ⟨hsu, A', k, hk5, rfl, hKu, hrel⟩ := hp
  have hQu : QI u A := hQ.fr hsu (by decide)
  iterate 2 refine hV.go rfl ?_
  refine hV.go rfl ?_
  have hm : Ctr l E 3 0 mX5_turn [vR 30] u (fun v z => QI z A' ∧ Sm mdK u z ∧ z.1 30 0 0 = nI k ∧ (∃ r : Int32, v = some (vI r) ∧ (k = 0 → r.toInt64 = u.2 50 0 0))) noX := by
    rcases hrel with ⟨rfl, rfl, p⟩ | ⟨rfl, rfl, p, q⟩ | ⟨rfl, rfl, p, q, r⟩ | ⟨rfl, rfl, p, q, r, f⟩ | ⟨rfl, p, q, r, f, rfl, ho⟩
    · exact m_turn G.m hQu (fun _ u hu h0 hs => ⟨hu, hs, h0, _, rfl, fun z => by cases z⟩) (fun p' => (p p').elim) (fun p' => (p p').elim) (fun p' => (p p').elim) (fun p' => (p p').elim)
    · exact m_turn G.m hQu (fun p' => (p' p).elim) (fun _ _ u hu h0 hs => ⟨hu, hs, h0, _, rfl, fun z => by cases z⟩) (fun _ q' => (q q').elim) (fun _ q' => (q q').elim) (fun _ q' => (q q').elim)
    · exact m_turn G.m hQu (fun p' => (p' p).elim) (fun _ q' => (q' q).elim) (fun _ _ _ u hu h0 hs => ⟨hu, hs, h0, _, rfl, fun z => by cases z⟩) (fun _ _ r' => (r r').elim) (fun _ _ r' => (r r').elim)
    · exact m_turn G.m hQu (fun p' => (p' p).elim) (fun _ q' => (q' q).elim) (fun _ _ r' => (r' r).elim) (fun _ _ _ _ u hu h0 hs => ⟨hu, hs, h0, _, rfl, fun z => by cases z⟩) (fun _ _ _ f' => by omega)
    · exact m_turn G.m hQu (fun p' => (p' p).elim) (fun _ q' => (q' q).elim) (fun _ _ r' => (r' r).elim) (fun _ _ _ f' => by omega) (fun _ _ _ _ u hu h0 hs => ⟨hu, hs, h0, _, rfl, fun _ => ho.symm⟩)
  refine And.intro (callP_r hm (by decide) (by omega) (fun v z hp => ?_)) trivial
  obtain ⟨hQz, hsz, hth, r, rfl, hans⟩ := hp
  refine hV.go rfl ?_
  iterate 2 refine hV.go rfl ?_
  refine And.intro (callP_v (m_thrown G.m) (by decide) (by omega) ?_) trivial
  refine topI (V := V) hth ?_
  iterate 2 refine hV.go rfl ?_
  refine And.intro (fun _ => ?_) (fun hc => absurd rfl hc)
  iterate 2 refine hV.go rfl ?_
  by_cases h0 : k = 0
  · subst h0
    refine And.intro (fun hc => absurd rfl (show ¬ (0 : Int32) = 0 from hc)) (fun _ => ?_)
    iterate 3 refine hV.go rfl ?_
    refine Exists.intro 0 (And.intro rfl (And.intro (by decide) ?_))
    refine topJ (V := V) (show z.2 50 0 0 = r.toInt64 by rw [(hsz 50 (by decide)).2]; exact (hans rfl).symm) ?_
    iterate 4 refine hV.go rfl ?_
    refine And.intro (fun _ => ?_) (fun hc => absurd (lg_eq.mpr rfl) hc)
    refine hV.go rfl ?_
    exact nx z A' _ _ _ _ (hKu.fr hsz (by decide)) hQz (by omega)
  · refine And.intro (fun _ => ?_) (fun hc => ?_)
    · refine hV.go rfl ?_
      exact nx z A' _ _ _ _ (hKu.fr hsz (by decide)) hQz (by omega)
    · have hc : nI k = nI 0 := Classical.not_not.mp hc
      exact (h0 (nI_inj hc (by omega) (by decide))).elim
theorem law_turns (G : GL l E) (hV : CLw l E b n xs B q_turns V) (hn : n ≤ 192) (hi : i + 3 < n) (hK : KI w A) (hQ : QI w A) (hc : c + 2 ≤ B) {x5 x6 x7 : Option AV} (nx : ∀ (u : Wd) (A : AS) (c2 : Nat) (x5 x6 x7 : Option AV), KI u A → QI u A → c2 ≤ c + 2 → V 1186 [some (vO b), some (vR 0), some (vR 30), some (vR 50), some (vI (nI i)), x5, x6, x7] [] u c2) : V 311 [some (vO b), some (vR 0), some (vR 30), some (vR 50), some (vI (nI i)), x5, x6, x7] [] w c := by
  refine hV.go rfl ?_
  refine hV.go rfl ?_
  refine And.intro (callP_v (c_turns G.c hK) (by decide) (by omega) ?_) trivial
  refine hV.go rfl ?_
  refine hV.go rfl ?_
  refine And.intro (callP_r (po := fun v z => QI z A ∧ Sm mdK w z ∧ v = some (vI (nI A.2.1.length))) (m_turns G.m hQ (fun u hu hs => ⟨hu, hs, rfl⟩)) (by decide) (by omega) (fun v z hp => ?_)) trivial
  obtain ⟨hQz, hsz, rfl⟩ := hp
  refine hV.go rfl ?_
  refine And.intro (fun _ => nx z A c _ _ _ (hK.fr hsz (by decide)) hQz (by omega)) (fun hc => absurd rfl hc)
theorem law_image (G : GL l E) (hV : CLw l E b n xs B q_image V) (hn : n ≤ 192) (hi : i + 3 < n) (hK : KI w A) (hQ : QI w A) (hc : c + 2 ≤ B) {x5 x6 x7 : Option AV} (nx : ∀ (u : Wd) (A : AS) (c2 : Nat) (x5 x6 x7 : Option AV), KI u A → QI u A → c2 ≤ c + 2 → V 1186 [some (vO b), some (vR 0), some (vR 30), some (vR 50), some (vI (nI i)), x5, x6, x7] [] u c2) : V 324 [some (vO b), some (vR 0), some (vR 30), some (vR 50), some (vI (nI i)), x5, x6, x7] [] w c := by
  refine hV.go rfl ?_
  iterate 4 refine hV.go rfl ?_
  refine topI (V := V) (nI_add i 1) ?_
  refine hV.go rfl ?_
  refine And.intro rfl (Exists.intro (i + 1) (And.intro rfl (And.intro (by omega) ?_)))
  iterate 4 refine hV.go rfl ?_
  refine topI (V := V) (nI_add i 2) ?_
  refine hV.go rfl ?_
  refine And.intro rfl (Exists.intro (i + 2) (And.intro rfl (And.intro (by omega) ?_)))
  refine hV.go rfl ?_
  refine hV.go rfl ?_
  refine And.intro (callP_x (xo := noX) (po := fun v z => Sm otK w z ∧ ∃ (A' : AS) (k : Nat), k < 5 ∧ v = some (vI (nI k)) ∧ KI z A' ∧ (A' = A ∧ ((k = 0 ∧ ∃ a p t, A.2.1[a]? = some t ∧ p < A.1 ∧ xs (i + 1) = nI a ∧ xs (i + 2) = nI p ∧ z.2 50 0 0 = (nI (t p)).toInt64) ∨ (k = 1 ∧ ((xs (i + 1) < 0 ∨ nI A.2.1.length ≤ xs (i + 1)) ∨ (xs (i + 2) < 0 ∨ nI A.1 ≤ xs (i + 2))))))) (w_image G (by decide) (c_image G.c hK (fun a p t ht hp e f => ⟨nI (t p), rfl, sm_ot Sm.rf _, A, 0, by decide, rfl, hK.ot _, rfl, Or.inl ⟨rfl, a, p, t, ht, hp, e, f, wJ_50 _ _⟩⟩) (fun h => ⟨rfl, Sm.rf, A, 1, by decide, rfl, hK, rfl, Or.inr ⟨rfl, h⟩⟩))) (by decide) (by omega) (fun v u hp => ?_) (fun X u hp => hp.elim)) trivial
  obtain ⟨hsu, A', k, hk5, rfl, hKu, hrel⟩ := hp
  have hQu : QI u A := hQ.fr hsu (by decide)
  iterate 2 refine hV.go rfl ?_
  iterate 4 refine hV.go rfl ?_
  refine topI (V := V) (nI_add i 1) ?_
  refine hV.go rfl ?_
  refine And.intro rfl (Exists.intro (i + 1) (And.intro rfl (And.intro (by omega) ?_)))
  iterate 4 refine hV.go rfl ?_
  refine topI (V := V) (nI_add i 2) ?_
  refine hV.go rfl ?_
  refine And.intro rfl (Exists.intro (i + 2) (And.intro rfl (And.intro (by omega) ?_)))
  refine hV.go rfl ?_
  have hm : Ctr l E 2 0 mX5_image [vR 30, vI (xs (i + 1)), vI (xs (i + 2))] u (fun v z => QI z A' ∧ Sm mdK u z ∧ z.1 30 0 0 = nI k ∧ (∃ r : Int32, v = some (vI r) ∧ (k = 0 → r.toInt64 = u.2 50 0 0))) noX := by
    have n12 := hQ.1.1.2
    have n5 := hQ.1.2.1.1
    obtain ⟨rfl, ⟨rfl, a, p, t, ht, hb, e, f, ho⟩ | ⟨rfl, h⟩⟩ := hrel
    · have ha := (List.getElem?_eq_some_iff.mp ht).1
      refine m_image G.m hQu (fun a' p' t' ht' hp' e' f' u hu h0 hs => ?_) (fun h => (h.elim (fun h => bnd_no ha (by omega) (by rw [← e]; exact h)) (fun h => bnd_no hb (by omega) (by rw [← f]; exact h))).elim)
      have ha' := (List.getElem?_eq_some_iff.mp ht').1
      have ea : a' = a := nI_inj (e'.symm.trans e) (by omega) (by omega)
      have eb : p' = p := nI_inj (f'.symm.trans f) (by omega) (by omega)
      subst ea
      subst eb
      rw [ht] at ht'
      cases ht'
      exact ⟨hu, hs, h0, _, rfl, fun _ => ho.symm⟩
    · refine m_image G.m hQu (fun a' p' t' ht' hb' e' f' => ?_) (fun _ u hu h0 hs => ⟨hu, hs, h0, _, rfl, fun z => by cases z⟩)
      have ha' := (List.getElem?_eq_some_iff.mp ht').1
      exact (h.elim (fun h => bnd_no ha' (by omega) (by rw [← e']; exact h)) (fun h => bnd_no hb' (by omega) (by rw [← f']; exact h))).elim
  refine And.intro (callP_r hm (by decide) (by omega) (fun v z hp => ?_)) trivial
  obtain ⟨hQz, hsz, hth, r, rfl, hans⟩ := hp
  refine hV.go rfl ?_
  iterate 2 refine hV.go rfl ?_
  refine And.intro (callP_v (m_thrown G.m) (by decide) (by omega) ?_) trivial
  refine topI (V := V) hth ?_
  iterate 2 refine hV.go rfl ?_
  refine And.intro (fun _ => ?_) (fun hc => absurd rfl hc)
  iterate 2 refine hV.go rfl ?_
  by_cases h0 : k = 0
  · subst h0
    refine And.intro (fun hc => absurd rfl (show ¬ (0 : Int32) = 0 from hc)) (fun _ => ?_)
    iterate 3 refine hV.go rfl ?_
    refine Exists.intro 0 (And.intro rfl (And.intro (by decide) ?_))
    refine topJ (V := V) (show z.2 50 0 0 = r.toInt64 by rw [(hsz 50 (by decide)).2]; exact (hans rfl).symm) ?_
    iterate 4 refine hV.go rfl ?_
    refine And.intro (fun _ => ?_) (fun hc => absurd (lg_eq.mpr rfl) hc)
    refine hV.go rfl ?_
    exact nx z A' _ _ _ _ (hKu.fr hsz (by decide)) hQz (by omega)
  · refine And.intro (fun _ => ?_) (fun hc => ?_)
    · refine hV.go rfl ?_
      exact nx z A' _ _ _ _ (hKu.fr hsz (by decide)) hQz (by omega)
    · have hc : nI k = nI 0 := Classical.not_not.mp hc
      exact (h0 (nI_inj hc (by omega) (by decide))).elim
theorem law_move (G : GL l E) (hV : CLw l E b n xs B q_move V) (hn : n ≤ 192) (hi : i + 3 < n) (hK : KI w A) (hQ : QI w A) (hc : c + 2 ≤ B) {x5 x6 x7 : Option AV} (nx : ∀ (u : Wd) (A : AS) (c2 : Nat) (x5 x6 x7 : Option AV), KI u A → QI u A → c2 ≤ c + 2 → V 1186 [some (vO b), some (vR 0), some (vR 30), some (vR 50), some (vI (nI i)), x5, x6, x7] [] u c2) : V 392 [some (vO b), some (vR 0), some (vR 30), some (vR 50), some (vI (nI i)), x5, x6, x7] [] w c := by
  refine hV.go rfl ?_
  iterate 4 refine hV.go rfl ?_
  refine topI (V := V) (nI_add i 1) ?_
  refine hV.go rfl ?_
  refine And.intro rfl (Exists.intro (i + 1) (And.intro rfl (And.intro (by omega) ?_)))
  refine hV.go rfl ?_
  refine And.intro (callP_x (xo := noX) (po := fun v z => Sm otK w z ∧ ∃ (A' : AS) (k : Nat), k < 5 ∧ v = some (vI (nI k)) ∧ KI z A' ∧ ((k = 0 ∧ ∃ j m, (mvs A.2.1)[j]? = some m ∧ xs (i + 1) = nI j ∧ A' = (A.1, A.2.1, cmp A.2.2.1 m, A.2.2.2.1, A.2.2.2.2)) ∨ (k = 1 ∧ A' = A ∧ (xs (i + 1) < 0 ∨ nI (2 * A.2.1.length) ≤ xs (i + 1))))) (w_move G (by decide) (c_move G.c hK (fun j m a e u hu hs => ⟨rfl, hs.mono (by decide), _, 0, by decide, rfl, hu, Or.inl ⟨rfl, j, m, a, e, rfl⟩⟩) (fun h => ⟨rfl, Sm.rf, A, 1, by decide, rfl, hK, Or.inr ⟨rfl, rfl, h⟩⟩))) (by decide) (by omega) (fun v u hp => ?_) (fun X u hp => hp.elim)) trivial
  obtain ⟨hsu, A', k, hk5, rfl, hKu, hrel⟩ := hp
  have hQu : QI u A := hQ.fr hsu (by decide)
  iterate 2 refine hV.go rfl ?_
  iterate 4 refine hV.go rfl ?_
  refine topI (V := V) (nI_add i 1) ?_
  refine hV.go rfl ?_
  refine And.intro rfl (Exists.intro (i + 1) (And.intro rfl (And.intro (by omega) ?_)))
  refine hV.go rfl ?_
  have hm : Ctr l E 2 0 mX5_move [vR 30, vI (xs (i + 1))] u (fun v z => QI z A' ∧ Sm mdK u z ∧ z.1 30 0 0 = nI k ∧ (v = none)) noX := by
    have n5 := hQ.1.2.1.1
    have hl := mvs_len A.2.1
    rcases hrel with ⟨rfl, j, m, a, e, rfl⟩ | ⟨rfl, rfl, h⟩
    · have hj := (List.getElem?_eq_some_iff.mp a).1
      refine m_move G.m hQu (fun j' m' a' e' u hu h0 hs => ?_) (fun h => (bnd_no (k := j) (n := 2 * A.2.1.length) (by omega) (by omega) (by rw [← e]; exact h)).elim)
      have hj' := (List.getElem?_eq_some_iff.mp a').1
      have ej : j' = j := nI_inj (e'.symm.trans e) (by omega) (by omega)
      subst ej
      rw [a] at a'
      cases a'
      exact ⟨hu, hs, h0, rfl⟩
    · refine m_move G.m hQu (fun j' m' a' e' => ?_) (fun _ u hu h0 hs => ⟨hu, hs, h0, rfl⟩)
      have hj' := (List.getElem?_eq_some_iff.mp a').1
      rw [e'] at h
      exact (bnd_no (by omega) (by omega) h).elim
  refine And.intro (callP_r hm (by decide) (by omega) (fun v z hp => ?_)) trivial
  obtain ⟨hQz, hsz, hth, rfl⟩ := hp
  iterate 2 refine hV.go rfl ?_
  refine And.intro (callP_v (m_thrown G.m) (by decide) (by omega) ?_) trivial
  refine topI (V := V) hth ?_
  iterate 2 refine hV.go rfl ?_
  refine And.intro (fun _ => ?_) (fun hc => absurd rfl hc)
  refine hV.go rfl ?_
  exact nx z A' _ _ _ _ (hKu.fr hsz (by decide)) hQz (by omega)
theorem law_swap (G : GL l E) (hV : CLw l E b n xs B q_swap V) (hn : n ≤ 192) (hi : i + 3 < n) (hK : KI w A) (hQ : QI w A) (hc : c + 2 ≤ B) {x5 x6 x7 : Option AV} (nx : ∀ (u : Wd) (A : AS) (c2 : Nat) (x5 x6 x7 : Option AV), KI u A → QI u A → c2 ≤ c + 2 → V 1186 [some (vO b), some (vR 0), some (vR 30), some (vR 50), some (vI (nI i)), x5, x6, x7] [] u c2) : V 428 [some (vO b), some (vR 0), some (vR 30), some (vR 50), some (vI (nI i)), x5, x6, x7] [] w c := by
  refine hV.go rfl ?_
  iterate 4 refine hV.go rfl ?_
  refine topI (V := V) (nI_add i 1) ?_
  refine hV.go rfl ?_
  refine And.intro rfl (Exists.intro (i + 1) (And.intro rfl (And.intro (by omega) ?_)))
  iterate 4 refine hV.go rfl ?_
  refine topI (V := V) (nI_add i 2) ?_
  refine hV.go rfl ?_
  refine And.intro rfl (Exists.intro (i + 2) (And.intro rfl (And.intro (by omega) ?_)))
  refine hV.go rfl ?_
  refine And.intro (callP_x (xo := noX) (po := fun v z => Sm otK w z ∧ ∃ (A' : AS) (k : Nat), k < 5 ∧ v = some (vI (nI k)) ∧ KI z A' ∧ ((k = 0 ∧ ∃ a b, a < A.1 ∧ b < A.1 ∧ xs (i + 1) = nI a ∧ xs (i + 2) = nI b ∧ A' = (A.1, A.2.1, cmp A.2.2.1 (fun j => if j = b then a else if j = a then b else j), A.2.2.2.1, A.2.2.2.2)) ∨ (k = 1 ∧ A' = A ∧ ((xs (i + 1) < 0 ∨ nI A.1 ≤ xs (i + 1)) ∨ (xs (i + 2) < 0 ∨ nI A.1 ≤ xs (i + 2)))))) (w_swap G (by decide) (c_swap G.c hK (fun a b ha hb e f u hu hs => ⟨rfl, hs.mono (by decide), _, 0, by decide, rfl, hu, Or.inl ⟨rfl, a, b, ha, hb, e, f, rfl⟩⟩) (fun h => ⟨rfl, Sm.rf, A, 1, by decide, rfl, hK, Or.inr ⟨rfl, rfl, h⟩⟩))) (by decide) (by omega) (fun v u hp => ?_) (fun X u hp => hp.elim)) trivial
  obtain ⟨hsu, A', k, hk5, rfl, hKu, hrel⟩ := hp
  have hQu : QI u A := hQ.fr hsu (by decide)
  iterate 2 refine hV.go rfl ?_
  iterate 4 refine hV.go rfl ?_
  refine topI (V := V) (nI_add i 1) ?_
  refine hV.go rfl ?_
  refine And.intro rfl (Exists.intro (i + 1) (And.intro rfl (And.intro (by omega) ?_)))
  iterate 4 refine hV.go rfl ?_
  refine topI (V := V) (nI_add i 2) ?_
  refine hV.go rfl ?_
  refine And.intro rfl (Exists.intro (i + 2) (And.intro rfl (And.intro (by omega) ?_)))
  refine hV.go rfl ?_
  have hm : Ctr l E 2 0 mX5_swap [vR 30, vI (xs (i + 1)), vI (xs (i + 2))] u (fun v z => QI z A' ∧ Sm mdK u z ∧ z.1 30 0 0 = nI k ∧ (v = none)) noX := by
    have n12 := hQ.1.1.2
    rcases hrel with ⟨rfl, a, b, ha, hb, e, f, rfl⟩ | ⟨rfl, rfl, h⟩
    · refine m_swap G.m hQu (fun a' b' ha' hb' e' f' u hu h0 hs => ?_) (fun h => (h.elim (fun h => bnd_no ha (by omega) (by rw [← e]; exact h)) (fun h => bnd_no hb (by omega) (by rw [← f]; exact h))).elim)
      have ea : a' = a := nI_inj (e'.symm.trans e) (by omega) (by omega)
      have eb : b' = b := nI_inj (f'.symm.trans f) (by omega) (by omega)
      subst ea
      subst eb
      exact ⟨hu, hs, h0, rfl⟩
    · exact m_swap G.m hQu (fun a' b' ha' hb' e' f' => (h.elim (fun h => bnd_no ha' (by omega) (by rw [← e']; exact h)) (fun h => bnd_no hb' (by omega) (by rw [← f']; exact h))).elim) (fun _ u hu h0 hs => ⟨hu, hs, h0, rfl⟩)
  refine And.intro (callP_r hm (by decide) (by omega) (fun v z hp => ?_)) trivial
  obtain ⟨hQz, hsz, hth, rfl⟩ := hp
  iterate 2 refine hV.go rfl ?_
  refine And.intro (callP_v (m_thrown G.m) (by decide) (by omega) ?_) trivial
  refine topI (V := V) hth ?_
  iterate 2 refine hV.go rfl ?_
  refine And.intro (fun _ => ?_) (fun hc => absurd rfl hc)
  refine hV.go rfl ?_
  exact nx z A' _ _ _ _ (hKu.fr hsz (by decide)) hQz (by omega)
end
