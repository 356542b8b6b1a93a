/-! a new puzzle; typing and cutting; the plain answers -/
abbrev clK : List Nat := [0, 1, 2, 3, 4, 5, 6, 7, 8, 9, 10, 11, 12, 13, 14, 15, 16, 17, 18, 19, 20, 21, 22]
theorem cs0_H : ∀ n k, k + n = 12 → ∀ f, Fx k f → H cs0 k f → f = idp
  | 0, k, hk, f, hf, _ => by
    have : k = 12 := by omega
    subst this
    exact hf.twelve
  | n + 1, k, hk, f, hf, h => by
    obtain ⟨h1, h2⟩ := (H_lt (by omega) f).mp h
    rw [cs0_O, List.mem_singleton] at h1
    rw [cs0_T, iv_id, cmp_id] at h2
    exact cs0_H n (k + 1) (by omega) f ⟨hf.1, fun j hj => by
      by_cases e : j = k
      · rw [e]; exact h1
      · exact hf.2 j (by omega)⟩ h2
theorem cs0_CC : CC cs0 0 := fun j _ hj f hf => by
  constructor
  · intro h
    rw [cs0_H (12 - j) j (by omega) f hf h]
    exact Gen.id _
  · rintro ⟨l, hl, rfl⟩
    cases l with
    | nil => exact H_id cs0_W (12 - j) j (by omega)
    | cons x r => exact absurd (hl x List.mem_cons_self) (by rw [cs0_M]; simp)
theorem cs0_K {u : Wd} (h : ChW u cs0) : CK u [] := ⟨cs0, h, cs0_W, cs0_CC, (fun j _ _ i f hf => by
  rw [cs0_M] at hf
  cases hf), Nat.le_refl _, fun f => Iff.rfl⟩
theorem SK.cg {w u : Wd} {so : List Nat} (h : SK w so) (h0 : u.1 0 0 8 = w.1 0 0 8) (h1 : u.1 5 = w.1 5) : SK u so := by
  unfold SK at h ⊢
  rw [h0, h1]
  exact h
section
variable {l : Launch} {E : En}
theorem c_beginPuzzle {w : Wd} {n : Nat} {tx so : List Nat} {po : Option AV → Wd → Prop} (G : GC l E) (h1 : 1 ≤ n) (h12 : n ≤ 12) (hx : TxW w tx) (hso : SK w so) (hpo : ∀ u, KI u (n, [], idp, tx, so) → Sm clK w u → po none u) : Ctr l E 4 0 mX4_beginPuzzle [vR 0, vI (nI n)] w po noX := by
  refine Ctr.of (tw := []) G.1 G.2 oX4_ok pgX4_beginPuzzle rfl (by decide) rfl rfl (Nat.le_of_ble_eq_true rfl) ?_
  intro V hV
  iterate 12 refine hV.go rfl ?_
  refine And.intro (callP_r (c_clear (po := fun v z => v = none ∧ ChW z cs0 ∧ Sm chK (wJ (wI (wI w 0 0 6 (nI n)) 0 0 7 0) 0 0 9 205163983024656) z) G (fun u a b => ⟨rfl, a, b⟩)) (by decide) (by decide) (fun r u hp => ?_)) trivial
  obtain ⟨rfl, hc, hs⟩ := hp
  iterate 3 refine hV.go rfl ?_
  refine And.intro (Or.inl rfl) ?_
  refine hV.go rfl ?_
  have e0 := hs 0 (by decide)
  have q6 : u.1 0 0 6 = nI n := by rw [e0.1]; simp [wI_get, wJ_1]
  have q7 : u.1 0 0 7 = nI 0 := by rw [e0.1]; simp [wI_get, wJ_1, nI_0]
  have q8 : u.1 0 0 8 = w.1 0 0 8 := by rw [e0.1]; simp [wI_get, wJ_1]
  have q9 : u.2 0 0 9 = rw idp := by rw [e0.2]; simp [wJ_get, wI_2, ← rw_id]
  have sm0 : Sm clK w (wJ (wI (wI w 0 0 6 (nI n)) 0 0 7 0) 0 0 9 205163983024656) := Sm.wJ (k := 0) (Sm.wI (k := 0) (Sm.wI (k := 0) Sm.rf (by decide)) (by decide)) (by decide)
  refine ⟨hpo _ ⟨⟨⟨⟨h1, h12⟩, ⟨Nat.zero_le _, fun t ht => by cases ht⟩, Lw.id n, ?_, ?_, ?_⟩, ⟨Nat.zero_le _, (fun f hf => by cases hf), (fun i f hf => by cases hf)⟩, cs0_K (hc.cg ?_ ?_ ?_ rfl rfl rfl), Or.inl ?_, ?_⟩, ?_⟩ (Sm.wI (k := 0) (sm0.tr (hs.mono (by decide))) (by decide)), Nat.le_refl _⟩
  · simp [wI_get, q6]
  · simp [wI_get, q7]
  · simp [wI_2, q9]
  · funext a b; simp [wI_get]
  · funext a b; simp [wI_get]
  · funext a b; simp [wI_get]
  · simp [wI_get]
  · refine hso.cg ?_ ?_
    · simp [wI_get, q8]
    · funext a b
      simp [wI_get, (hs 5 (by decide)).1, wJ_1]
  · refine hx.cg ?_ ?_
    · funext a b
      simp [wI_get, (hs 1 (by decide)).1, wJ_1]
    · funext a b
      simp [wI_get, (hs 7 (by decide)).1, wJ_1]
theorem c_stickers {w : Wd} {A : AS} {x : Int32} {po : Option AV → Wd → Prop} (G : GC l E) (hw : KI w A) (h1 : ∀ n, 1 ≤ n → n ≤ 12 → x = nI n → ∀ u, KI u (n, [], idp, A.2.2.2.1, A.2.2.2.2) → Sm clK w u → po (some (vI 1)) u) (h2 : (∀ n, 1 ≤ n → n ≤ 12 → x ≠ nI n) → po (some (vI 0)) w) : Ctr l E 5 0 mX4_stickers [vR 0, vI x] w po noX := by
  refine Ctr.of (tw := []) G.1 G.2 oX4_ok pgX4_stickers rfl (by decide) rfl rfl (Nat.le_of_ble_eq_true rfl) ?_
  intro V hV
  iterate 3 refine hV.go rfl ?_
  refine And.intro (fun hc => ?_) (fun hc => ?_)
  · have hc : x < nI 1 := hc
    repeat refine hV.go rfl ?_
    refine ⟨Or.inl rfl, h2 (fun n a b e => ?_), Nat.le_refl _⟩
    rw [e, nI_ltI (by omega) (by decide)] at hc
    omega
  · have hc : ¬ x < nI 1 := hc
    iterate 3 refine hV.go rfl ?_
    refine And.intro (fun hc2 => ?_) (fun hc2 => ?_)
    · have hc2 : x ≤ nI 12 := hc2
      have hx0 : ¬ x < 0 := fun z => hc (Int32.lt_trans z (by decide))
      obtain ⟨n, hn, rfl⟩ : ∃ k, k ≤ 12 ∧ x = nI k := nI_of2 (M := nI 12) (nI_toInt (by decide)) hx0 hc2
      have hn1 : 1 ≤ n := by
        rw [nI_ltI (by omega) (by decide)] at hc
        omega
      iterate 3 refine hV.go rfl ?_
      refine And.intro (callP_r (c_beginPuzzle (po := fun v z => v = none ∧ KI z (n, [], idp, A.2.2.2.1, A.2.2.2.2) ∧ Sm clK w z) G hn1 hn hw.2 hw.1.2.2.2.2 (fun u a b => ⟨rfl, a, b⟩)) (by decide) (by decide) (fun r u hp => ?_)) trivial
      obtain ⟨rfl, hk, hs⟩ := hp
      repeat refine hV.go rfl ?_
      exact ⟨Or.inr rfl, h1 n hn1 hn rfl u hk hs, Nat.le_refl _⟩
    · have hc2 : ¬ x ≤ nI 12 := hc2
      repeat refine hV.go rfl ?_
      refine ⟨Or.inl rfl, h2 (fun n a b e => ?_), Nat.le_refl _⟩
      rw [e, nI_leI (by omega) (by decide)] at hc2
      omega
theorem c_type {w : Wd} {A : AS} {x : Int64} {n : Int32} {po : Option AV → Wd → Prop} (G : GC l E) (hw : KI w A) (h1 : ∀ k, n = nI k → tyOk A.2.2.2.1 x k → ∀ u, KI u (A.1, A.2.1, A.2.2.1, A.2.2.2.1 ++ (List.range k).map (byt x), A.2.2.2.2) → Sm clK w u → po (some (vI 1)) u) (h2 : (∀ k, n = nI k → ¬ tyOk A.2.2.2.1 x k) → po (some (vI 0)) w) : Ctr l E 3 0 mX4_type [vR 0, vJ x, vI n] w po noX := by
  refine Ctr.of (tw := []) G.1 G.2 oX4_ok pgX4_type rfl (by decide) rfl rfl (Nat.le_of_ble_eq_true rfl) ?_
  intro V hV
  iterate 5 refine hV.go rfl ?_
  refine And.intro (callP_r (c_append (po := fun v z => ∃ b, v = some (vI b) ∧ (b = 0 ∨ b = 1) ∧ po (some (vI b)) z) G hw.2 (fun k hk hok u hu hs => ⟨1, rfl, Or.inr rfl, h1 k hk hok u ⟨hw.1.sm hs (by decide), hu⟩ (hs.mono (by decide))⟩) (fun h => ⟨0, rfl, Or.inl rfl, h2 h⟩)) (by decide) (by decide) (fun r u hp => ?_)) trivial
  obtain ⟨b, rfl, hb, hp⟩ := hp
  refine hV.go rfl ?_
  exact ⟨hb, hp, Nat.le_refl _⟩
theorem c_cut {w : Wd} {A : AS} {n : Int32} {po : Option AV → Wd → Prop} (G : GC l E) (hw : KI w A) (h1 : ∀ k, n = nI k → k ≤ A.2.2.2.1.length → ∀ u, KI u (A.1, A.2.1, A.2.2.1, A.2.2.2.1.take k, A.2.2.2.2) → Sm clK w u → po (some (vI 1)) u) (h2 : (∀ k, n = nI k → ¬ k ≤ A.2.2.2.1.length) → po (some (vI 0)) w) : Ctr l E 2 0 mX4_cut [vR 0, vI n] w po noX := by
  refine Ctr.of (tw := []) G.1 G.2 oX4_ok pgX4_cut rfl (by decide) rfl rfl (Nat.le_of_ble_eq_true rfl) ?_
  intro V hV
  iterate 4 refine hV.go rfl ?_
  refine And.intro (callP_r (c_shorten (po := fun v z => ∃ b, v = some (vI b) ∧ (b = 0 ∨ b = 1) ∧ po (some (vI b)) z) G hw.2 (fun k hk hok u hu hs => ⟨1, rfl, Or.inr rfl, h1 k hk hok u ⟨hw.1.sm hs (by decide), hu⟩ (hs.mono (by decide))⟩) (fun h => ⟨0, rfl, Or.inl rfl, h2 h⟩)) (by decide) (by decide) (fun r u hp => ?_)) trivial
  obtain ⟨b, rfl, hb, hp⟩ := hp
  refine hV.go rfl ?_
  exact ⟨hb, hp, Nat.le_refl _⟩
theorem c_turns {w : Wd} {A : AS} (G : GC l E) (hw : KI w A) : Ctr l E 1 0 mX4_turns [vR 0] w (fun r u => r = some (vI (nI A.2.1.length)) ∧ u = w) noX := by
  refine Ctr.of (tw := []) G.1 G.2 oX4_ok pgX4_turns rfl (by decide) rfl rfl (Nat.le_of_ble_eq_true rfl) ?_
  intro V hV
  iterate 2 refine hV.go rfl ?_
  refine topI (V := V) hw.1.1.2.2.2.2.1 ?_
  refine hV.go rfl ?_
  exact ⟨⟨rfl, rfl⟩, Nat.le_refl _⟩
theorem c_image {w : Wd} {A : AS} {x y : Int32} {po : Option AV → Wd → Prop} {xo : String → Wd → Prop} (G : GC l E) (hw : KI w A) (h1 : ∀ i p t, A.2.1[i]? = some t → p < A.1 → x = nI i → y = nI p → po (some (vI (nI (t p)))) w) (h2 : ((x < 0 ∨ nI A.2.1.length ≤ x) ∨ (y < 0 ∨ nI A.1 ≤ y)) → xo xIO w) : Ctr l E 2 2 mX4_image [vR 0, vI x, vI y] w po xo := by
  refine Ctr.of (tw := []) G.1 G.2 oX4_ok pgX4_image rfl (by decide) rfl rfl (Nat.le_of_ble_eq_true rfl) ?_
  intro V hV
  obtain ⟨⟨n1, n2, n3, n4, n5, n6⟩, mv, -⟩ := hw.1
  iterate 3 refine hV.go rfl ?_
  refine And.intro (callP_x (c_requireTurn (po := fun v z => v = none ∧ z = w ∧ ∃ i, i < A.2.1.length ∧ x = nI i) (xo := fun X z => X = xIO ∧ z = w ∧ (x < 0 ∨ nI A.2.1.length ≤ x)) G n5 n2.1 (fun k hk e => ⟨rfl, rfl, k, hk, e⟩) (fun h => ⟨rfl, rfl, h⟩)) (by decide) (by decide) (fun r u hp => ?_) (fun X u hp => ?_)) trivial
  · obtain ⟨rfl, rfl, i, hi, rfl⟩ := hp
    iterate 3 refine hV.go rfl ?_
    refine And.intro (callP_x (c_requireSticker (po := fun v z => v = none ∧ z = u ∧ ∃ i, i < A.1 ∧ y = nI i) (xo := fun X z => X = xIO ∧ z = u ∧ (y < 0 ∨ nI A.1 ≤ y)) G n4 n1.2 (fun k hk e => ⟨rfl, rfl, k, hk, e⟩) (fun h => ⟨rfl, rfl, h⟩)) (by decide) (by decide) (fun r u1 hp => ?_) (fun X u1 hp => ?_)) trivial
    · obtain ⟨rfl, rfl, p, hp, rfl⟩ := hp
      have ht : A.2.1[i]? = some A.2.1[i] := List.getElem?_eq_getElem hi
      have hL := n2.2 _ (List.mem_of_getElem? ht)
      iterate 5 refine hV.go rfl ?_
      refine topI (V := V) (show (2 : Int32) * nI i = nI (2 * i) from (Int32.ofNat_mul 2 i).symm) ?_
      refine hV.go rfl ?_
      refine Exists.intro (2 * i) (And.intro rfl (And.intro (show 2 * i < 10 by omega) ?_))
      refine topJ (V := V) (mv.2.2 _ _ (mvs_ev _ i _ ht).1) ?_
      iterate 2 refine hV.go rfl ?_
      refine And.intro (callP_v (c_at G hL.1.lt16 (by omega) _) (by decide) (by decide) ?_) trivial
      refine hV.go rfl ?_
      exact ⟨h1 i p _ ht hp rfl rfl, Nat.le_refl _⟩
    · obtain ⟨rfl, rfl, hb⟩ := hp
      exact h2 (Or.inr hb)
  · obtain ⟨rfl, rfl, hb⟩ := hp
    exact h2 (Or.inl hb)
end
