/-! adding a turn -/
theorem pair_get {m : Nat} {X : List (Nat → Nat)} {a b f : Nat → Nat} {i : Nat} (hX : X.length = m) (h : (X ++ [a, b])[i]? = some f) : (X[i]? = some f ∧ i < m) ∨ (i = m ∧ f = a) ∨ (i = m + 1 ∧ f = b) := by
  by_cases hi : i < X.length
  · rw [List.getElem?_append_left hi] at h
    exact Or.inl ⟨h, by omega⟩
  · rw [List.getElem?_append_right (by omega)] at h
    match hj : i - X.length, h with
    | 0, h => cases h; exact Or.inr (Or.inl ⟨by omega, rfl⟩)
    | 1, h => cases h; exact Or.inr (Or.inr ⟨by omega, rfl⟩)
    | j + 2, h => cases h
section
variable {l : Launch} {E : En}
theorem c_addTurn {w : Wd} {A : AS} {t : Nat → Nat} {po : Option AV → Wd → Prop} (G : GC l E) (hw : KI w A) (ht : Lw A.1 t) (h5 : A.2.1.length < 5) (hpo : ∀ u, KI u (A.1, A.2.1 ++ [t], A.2.2.1, A.2.2.2.1, A.2.2.2.2) → Sm clK w u → po (some (vI (nI A.2.1.length))) u) : Ctr l E 31 0 mX4_addTurn [vR 0, vJ (rw t)] w po noX := by
  refine Ctr.of (tw := []) G.1 G.2 oX4_ok pgX4_addTurn rfl (by decide) rfl rfl (Nat.le_of_ble_eq_true rfl) ?_
  intro V hV
  obtain ⟨n, ts, tb, tx, so⟩ := A
  obtain ⟨⟨⟨n1, n2, n3, n4, n5, n6⟩, mv, ck, bk, sk⟩, xk⟩ := id hw
  simp only at n1 n2 n3 n4 n5 n6 mv ck bk sk xk h5 ht hpo ⊢
  have e2 : (2 : Int32) * nI ts.length = nI (2 * ts.length) := (Int32.ofNat_mul 2 _).symm
  iterate 5 refine hV.go rfl ?_
  refine topI (V := V) n5 ?_
  refine hV.go rfl ?_
  refine topI (V := V) e2 ?_
  iterate 2 refine hV.go rfl ?_
  refine Exists.intro (2 * ts.length) (And.intro rfl (And.intro (show 2 * ts.length < 10 by omega) ?_))
  iterate 5 refine hV.go rfl ?_
  refine topI (V := V) (show (wJ w 4 0 (2 * ts.length) (rw t)).1 0 0 7 = nI ts.length from n5) ?_
  refine hV.go rfl ?_
  refine topI (V := V) e2 ?_
  iterate 2 refine hV.go rfl ?_
  refine topI (V := V) (nI_1 _) ?_
  iterate 2 refine hV.go rfl ?_
  refine And.intro (callP_v (c_back G ht.1 _) (by decide) (by decide) ?_) trivial
  refine hV.go rfl ?_
  refine Exists.intro (2 * ts.length + 1) (And.intro rfl (And.intro (show 2 * ts.length + 1 < 10 by omega) ?_))
  iterate 4 refine hV.go rfl ?_
  have sm4 : Sm [4] w (wJ (wJ w 4 0 (2 * ts.length) (rw t)) 4 0 (2 * ts.length + 1) (rw (iv t))) := Sm.wJ (k := 4) (Sm.wJ (k := 4) Sm.rf (by decide)) (by decide)
  obtain ⟨s, c1, c2, c3, c4, c5, c6⟩ := ck.sm sm4 (by decide)
  refine And.intro (callP_r (c_admit (po := fun v z => v = none ∧ CK z (ts ++ [t]) ∧ Sm chK (wJ (wJ w 4 0 (2 * ts.length) (rw t)) 4 0 (2 * ts.length + 1) (rw (iv t))) z) G c1 c2 c3 c4 ht.1 (by omega) (fun u s' d1 d2 d3 d4 d5 d6 => ⟨rfl, ⟨s', d1, d3, d4, d5, ?_, ?_⟩, d2⟩)) (by decide) (by decide) (fun r u hp => ?_)) trivial
  · rw [List.length_append]
    rcases d6 with ⟨e, -⟩ | e
    · rw [e]
      omega
    · rw [e, List.length_append]
      simp only [List.length_cons, List.length_nil]
      omega
  · intro f
    rcases d6 with ⟨e, hg⟩ | e
    · rw [e, c6 f]
      exact (Gen_in ((c6 t).mp hg) f).symm
    · rw [e]
      exact Gen_cg c6 t f
  · obtain ⟨rfl, ck', hs⟩ := hp
    have hu0 : u.1 0 = w.1 0 := (hs 0 (by decide)).1
    have hu4 := (hs 4 (by decide)).2
    have hsw : Sm clK w u := (sm4.mono (by decide)).tr (hs.mono (by decide))
    iterate 3 refine hV.go rfl ?_
    refine And.intro (Or.inl rfl) ?_
    iterate 3 refine hV.go rfl ?_
    refine topI (V := V) (show (wI u 0 0 10 0).1 0 0 7 = nI ts.length by simp [wI_get, hu0, n5]) ?_
    iterate 2 refine hV.go rfl ?_
    refine topI (V := V) (nI_1 _) ?_
    iterate 3 refine hV.go rfl ?_
    refine topI (V := V) (show (wI (wI u 0 0 10 0) 0 0 7 (nI (ts.length + 1))).1 0 0 7 = nI (ts.length + 1) by simp [wI_get]) ?_
    iterate 2 refine hV.go rfl ?_
    refine topI (V := V) (nI_pred _) ?_
    refine hV.go rfl ?_
    have smf : Sm [0] u (wI (wI u 0 0 10 0) 0 0 7 (nI (ts.length + 1))) := Sm.wI (k := 0) (Sm.wI (k := 0) Sm.rf (by decide)) (by decide)
    refine ⟨hpo _ ⟨⟨⟨n1, ⟨?_, ?_⟩, n3, ?_, ?_, ?_⟩, ⟨?_, ?_, ?_⟩, ck'.sm smf (by decide), Or.inl ?_, sk.cg ?_ ?_⟩, xk.cg ?_ ?_⟩ (hsw.tr (smf.mono (by decide))), Nat.le_refl _⟩
    · show (ts ++ [t]).length ≤ 5
      simp only [List.length_append, List.length_cons, List.length_nil]
      omega
    · intro x hx
      rcases List.mem_append.mp hx with hx | hx
      · exact n2.2 x hx
      · rw [List.mem_singleton] at hx
        rw [hx]
        exact ht
    · simp [wI_get, hu0, n4]
    · simp [wI_get]
    · show u.2 0 0 9 = rw tb
      rw [(hs 0 (by decide)).2, (sm4 0 (by decide)).2]
      exact n6
    · show (mvs (ts ++ [t])).length ≤ 10
      rw [mvs_len, List.length_append]
      simp only [List.length_cons, List.length_nil]
      omega
    · intro f hf
      obtain ⟨x, hx, hor⟩ := mvs_mem.mp hf
      have hxL : Lw n x := by
        rcases List.mem_append.mp hx with hx | hx
        · exact n2.2 x hx
        · rw [List.mem_singleton] at hx
          rw [hx]
          exact ht
      rcases hor with rfl | rfl
      · exact hxL.1
      · exact hxL.1.iv
    · intro i f hf
      show u.2 4 0 i = rw f
      rw [hu4]
      have hf : (mvs (ts ++ [t]))[i]? = some f := hf
      rw [mvs_app] at hf
      rcases pair_get (mvs_len ts) hf with ⟨a, b⟩ | ⟨rfl, rfl⟩ | ⟨rfl, rfl⟩
      · rw [wJ_get, if_neg (by omega), wJ_get, if_neg (by omega)]
        exact mv.2.2 i f a
      · rw [wJ_get, if_neg (by omega), wJ_get, if_pos (by omega)]
      · rw [wJ_get, if_pos (by omega)]
    · simp [wI_get]
    · simp [wI_get, hu0]
    · exact (smf 5 (by decide)).1.trans (hs 5 (by decide)).1
    · exact (smf 1 (by decide)).1.trans (hs 1 (by decide)).1
    · exact (smf 7 (by decide)).1.trans (hs 7 (by decide)).1
theorem c_turn {w : Wd} {A : AS} {po : Option AV → Wd → Prop} {xo : String → Wd → Prop} (G : GC l E) (hw : KI w A)
    (h1 : (rdA A.2.2.2.1).1 ≠ 1 → ∀ u, KI u A → Sm clK w u → xo xIA u)
    (h2 : (rdA A.2.2.2.1).1 = 1 → (¬ ∀ x ∈ (rdA A.2.2.2.1).2.1, x.1 < A.1) → ∀ u, KI u A → Sm clK w u → xo xIO u)
    (h3 : (rdA A.2.2.2.1).1 = 1 → (∀ x ∈ (rdA A.2.2.2.1).2.1, x.1 < A.1) → ¬ ndN (rdA A.2.2.2.1).2.1 → ∀ u, KI u A → Sm clK w u → xo xIS u)
    (h4 : (rdA A.2.2.2.1).1 = 1 → (∀ x ∈ (rdA A.2.2.2.1).2.1, x.1 < A.1) → ndN (rdA A.2.2.2.1).2.1 → A.2.1.length = 5 → ∀ u, KI u A → Sm clK w u → xo xUO u)
    (h5 : (rdA A.2.2.2.1).1 = 1 → (∀ x ∈ (rdA A.2.2.2.1).2.1, x.1 < A.1) → ndN (rdA A.2.2.2.1).2.1 → A.2.1.length < 5 → ∀ u, KI u (A.1, A.2.1 ++ [pR (rdA A.2.2.2.1).2.1 (rdA A.2.2.2.1).2.1.length], A.2.2.1, A.2.2.2.1, A.2.2.2.2) → Sm clK w u → po (some (vI (nI A.2.1.length))) u) :
    Ctr l E 32 1 mX4_turn [vR 0] w po xo := by
  refine Ctr.of (tw := tX4_turn) G.1 G.2 oX4_ok pgX4_turn twX4_turn (by decide) rfl rfl (Nat.le_of_ble_eq_true rfl) ?_
  intro V hV
  obtain ⟨⟨n1, n2, n3, n4, n5, n6⟩, mv, -⟩ := hw.1
  iterate 3 refine hV.go rfl ?_
  refine And.intro (callP_r (c_readCycles (po := fun v z => v = some (vI (b2i (decide ((rdA A.2.2.2.1).1 = 1)))) ∧ TxW z A.2.2.2.1 ∧ RqW z (rdA A.2.2.2.1) ∧ Sm txK w z) G hw.2 (fun u a b c => ⟨rfl, a, b, c⟩)) (by decide) (by decide) (fun r u hp => ?_)) trivial
  obtain ⟨rfl, ht, hq, hs⟩ := hp
  have hk : KI u A := ⟨hw.1.sm hs (by decide), ht⟩
  have hsc : Sm clK w u := hs.mono (by decide)
  obtain ⟨⟨m1, m2, m3, m4, m5, m6⟩, mv', -⟩ := hk.1
  have hlen : (rdA A.2.2.2.1).2.1.length ≤ 48 := by
    have h := rdF_len A.2.2.2.1 rd0
    have h2 := ht.2.1
    simp only [rd0, List.length_nil, Nat.zero_add] at h
    unfold rdA
    exact Nat.le_trans h h2
  have hB := rdA_B A.2.2.2.1
  refine hV.go rfl ?_
  refine And.intro (fun hc => ?_) (fun hc => ?_)
  · have hc : ¬ b2i (decide ((rdA A.2.2.2.1).1 = 1)) = 0 := hc
    rw [b2i_ne, decide_eq_true_iff] at hc
    iterate 4 refine hV.go rfl ?_
    refine topI (V := V) m4 ?_
    refine hV.go rfl ?_
    refine And.intro (callP_v (c_readBelow G hq hB hlen m1.2) (by decide) (by decide) ?_) trivial
    refine hV.go rfl ?_
    refine And.intro (fun hc2 => ?_) (fun hc2 => ?_)
    · have hc2 : ¬ b2i (decide (∀ x ∈ (rdA A.2.2.2.1).2.1, x.1 < A.1)) = 0 := hc2
      rw [b2i_ne, decide_eq_true_iff] at hc2
      iterate 3 refine hV.go rfl ?_
      refine And.intro (callP_r (c_readTwice (po := fun v z => z = u ∧ ((v = some (vI 1) ∧ ¬ ndN (rdA A.2.2.2.1).2.1) ∨ (v = some (vI 0) ∧ ndN (rdA A.2.2.2.1).2.1))) G hq hB hlen (fun h => ⟨rfl, Or.inl ⟨rfl, h⟩⟩) (fun h => ⟨rfl, Or.inr ⟨rfl, h⟩⟩)) (by decide) (by decide) (fun r z hp => ?_)) trivial
      obtain ⟨rfl, ⟨rfl, hnd⟩ | ⟨rfl, hnd⟩⟩ := hp
      · refine hV.go rfl ?_
        refine And.intro (fun hc3 => absurd (show (1 : Int32) = 0 from hc3) (by decide)) (fun hc3 => ?_)
        refine hV.go rfl ?_
        exact ⟨h3 hc hc2 hnd _ hk hsc, Nat.le_refl _⟩
      · refine hV.go rfl ?_
        refine And.intro (fun hc3 => ?_) (fun hc3 => absurd rfl hc3)
        iterate 2 refine hV.go rfl ?_
        refine topI (V := V) m5 ?_
        iterate 2 refine hV.go rfl ?_
        refine And.intro (fun hc4 => ?_) (fun hc4 => ?_)
        · have hc4 : nI A.2.1.length < nI 5 := hc4
          rw [nI_ltI (by omega) (by decide)] at hc4
          iterate 4 refine hV.go rfl ?_
          refine And.intro (callP_v (c_readRow G hq hB hlen (fun x hx => by have := hc2 x hx; omega)) (by decide) (by decide) ?_) trivial
          refine hV.go rfl ?_
          refine And.intro (callP_r (c_addTurn (po := fun v y => v = some (vI (nI A.2.1.length)) ∧ KI y (A.1, A.2.1 ++ [pR (rdA A.2.2.2.1).2.1 (rdA A.2.2.2.1).2.1.length], A.2.2.1, A.2.2.2.1, A.2.2.2.2) ∧ Sm clK z y) G hk (pR_Lw m1.2 (rdA_H _).1 hnd hc2) hc4 (fun y a b => ⟨rfl, a, b⟩)) (by decide) (by decide) (fun r y hp => ?_)) trivial
          obtain ⟨rfl, k1, k2⟩ := hp
          refine hV.go rfl ?_
          exact ⟨h5 hc hc2 hnd hc4 _ k1 (hsc.tr k2), by decide⟩
        · have hc4 : ¬ nI A.2.1.length < nI 5 := hc4
          rw [nI_ltI (by omega) (by decide)] at hc4
          refine hV.go rfl ?_
          exact ⟨h4 hc hc2 hnd (by omega) _ hk hsc, Nat.le_refl _⟩
    · have hc2 : ¬ ¬ b2i (decide (∀ x ∈ (rdA A.2.2.2.1).2.1, x.1 < A.1)) = 0 := hc2
      rw [b2i_ne, decide_eq_true_iff] at hc2
      refine hV.go rfl ?_
      exact ⟨h2 hc hc2 _ hk hsc, Nat.le_refl _⟩
  · have hc : ¬ ¬ b2i (decide ((rdA A.2.2.2.1).1 = 1)) = 0 := hc
    rw [b2i_ne, decide_eq_true_iff] at hc
    refine hV.go rfl ?_
    exact ⟨h1 hc _ hk hsc, Nat.le_refl _⟩
end
