/-! the reference's state -/
abbrev mdK : List Nat := [30, 31, 32, 33, 34, 35, 36, 37, 38, 39, 40, 41, 42, 43]
def MN (w : Wd) (n : Nat) (ts : List (Nat → Nat)) (tb : Nat → Nat) : Prop := (1 ≤ n ∧ n ≤ 12) ∧ (ts.length ≤ 5 ∧ ∀ t ∈ ts, Lw n t) ∧ Lw n tb ∧ w.1 30 0 1 = nI n ∧ w.1 30 0 2 = nI ts.length ∧ (∀ i t, ts[i]? = some t → ∀ p, p < 12 → w.1 31 0 (12 * i + p) = nI (t p) ∧ w.1 31 0 (60 + 12 * i + p) = nI (iv t p)) ∧ ∀ s, s < n → w.1 32 0 s = nI (tb s)
def MX (w : Wd) (tx : List Nat) : Prop := w.1 30 0 5 = nI tx.length ∧ tx.length ≤ 48 ∧ ∀ i c, tx[i]? = some c → w.1 33 0 i = nI c ∧ c < 128
def MS (w : Wd) (so : List Nat) : Prop := so.length ≤ 1500 ∧ w.1 30 0 16 = nI so.length ∧ ∀ i m, so[i]? = some m → w.1 41 0 i = nI m
def MC (w : Wd) (s : CS) : Prop := ∀ k p, k < 12 → p < 12 → (p ∈ cO s k → w.1 34 0 (12 * k + p) = 1 ∧ ∀ x, x < 12 → w.1 35 0 (12 * (12 * k + p) + x) = nI (cT s k p x)) ∧ (p ∉ cO s k → w.1 34 0 (12 * k + p) = 0)
def FR (w : Wd) (ts : List (Nat → Nat)) : Prop := ∀ f d, Gen ts f → Dst (mvs ts) f d → w.1 39 0 (rN ts f) = nI d
def MR (w : Wd) (ts : List (Nat → Nat)) : Prop := w.1 30 0 7 = 0 ∨ (w.1 30 0 7 = 1 ∧ (∃ s, MC w s ∧ CP s (Gen ts)) ∧ (w.1 30 0 13 = 0 ∨ (w.1 30 0 13 = 1 ∧ FR w ts)))
def QI (w : Wd) (A : AS) : Prop := MN w A.1 A.2.1 A.2.2.1 ∧ MX w A.2.2.2.1 ∧ MS w A.2.2.2.2 ∧ MR w A.2.1
theorem MR.cg {w u : Wd} {ts : List (Nat → Nat)} (h : MR w ts) (h1 : u.1 30 0 7 = w.1 30 0 7) (h2 : u.1 30 0 13 = w.1 30 0 13) (h3 : u.1 34 = w.1 34) (h4 : u.1 35 = w.1 35) (h5 : u.1 39 = w.1 39) : MR u ts := by
  unfold MR MC FR at h ⊢
  rw [h1, h2, h3, h4, h5]
  exact h
theorem MX.cg {w u : Wd} {tx : List Nat} (h : MX w tx) (h1 : u.1 30 0 5 = w.1 30 0 5) (h2 : u.1 33 = w.1 33) : MX u tx := by
  unfold MX at h ⊢
  rw [h1, h2]
  exact h
theorem MS.cg {w u : Wd} {so : List Nat} (h : MS w so) (h1 : u.1 30 0 16 = w.1 30 0 16) (h2 : u.1 41 = w.1 41) : MS u so := by
  unfold MS at h ⊢
  rw [h1, h2]
  exact h
theorem MN.cg {w u : Wd} {n : Nat} {ts : List (Nat → Nat)} {tb : Nat → Nat} (h : MN w n ts tb) (h1 : u.1 30 0 1 = w.1 30 0 1) (h2 : u.1 30 0 2 = w.1 30 0 2) (h3 : u.1 31 = w.1 31) (h4 : u.1 32 = w.1 32) : MN u n ts tb := by
  unfold MN at h ⊢
  rw [h1, h2, h3, h4]
  exact h
/-- only the work rows and the code of the last throw change -/
abbrev wkK : List Nat := [36, 37, 38, 40, 42, 43]
theorem QI.wk {w u : Wd} {A : AS} (h : QI w A) (hs : Sm wkK w u) : QI u A := by
  have e0 := (hs 30 (by decide)).1
  exact ⟨h.1.cg (by rw [e0]) (by rw [e0]) (hs 31 (by decide)).1 (hs 32 (by decide)).1, h.2.1.cg (by rw [e0]) (hs 33 (by decide)).1, h.2.2.1.cg (by rw [e0]) (hs 41 (by decide)).1, h.2.2.2.cg (by rw [e0]) (by rw [e0]) (hs 34 (by decide)).1 (hs 35 (by decide)).1 (hs 39 (by decide)).1⟩
theorem QI.th {w : Wd} {A : AS} (h : QI w A) (x : Int32) : QI (wI w 30 0 0 x) A := by
  have hs : Sm [30] w (wI w 30 0 0 x) := Sm.wI (k := 30) Sm.rf (by decide)
  have e : ∀ j, j ≠ 0 → (wI w 30 0 0 x).1 30 0 j = w.1 30 0 j := fun j hj => by rw [wI_get, if_neg (by omega)]
  exact ⟨h.1.cg (e 1 (by decide)) (e 2 (by decide)) (hs 31 (by decide)).1 (hs 32 (by decide)).1, h.2.1.cg (e 5 (by decide)) (hs 33 (by decide)).1, h.2.2.1.cg (e 16 (by decide)) (hs 41 (by decide)).1, h.2.2.2.cg (e 7 (by decide)) (e 13 (by decide)) (hs 34 (by decide)).1 (hs 35 (by decide)).1 (hs 39 (by decide)).1⟩
theorem wI_ne {w : Wd} {k i j : Nat} {x : Int32} {a b c : Nat} (h : ¬ (a = k ∧ b = i ∧ c = j)) : (wI w k i j x).1 a b c = w.1 a b c := by rw [wI_get, if_neg h]
theorem wI_eq {w : Wd} {k i j : Nat} {x : Int32} : (wI w k i j x).1 k i j = x := by rw [wI_get, if_pos ⟨rfl, rfl, rfl⟩]
theorem nI_mul (a b : Nat) : nI a * nI b = nI (a * b) := (Int32.ofNat_mul a b).symm
section
variable {l : Launch} {E : En}
theorem m_thrown {w : Wd} (G : GM l E) : Ctr l E 1 0 mX5_thrown [vR 30] w (fun r u => r = some (vI (w.1 30 0 0)) ∧ u = w) noX := by
  refine Ctr.of (tw := []) G.1 G.2 oX5_ok pgX5_thrown rfl (by decide) rfl rfl (Nat.le_of_ble_eq_true rfl) ?_
  intro V hV
  repeat refine hV.go rfl ?_
  exact ⟨⟨rfl, rfl⟩, Nat.le_refl _⟩
theorem m_isPlace {w : Wd} {n : Nat} {x : Int32} {po : Option AV → Wd → Prop} (G : GM l E) (h1 : w.1 30 0 1 = nI n) (hn : n ≤ 12) (hy : ∀ k, k < n → x = nI k → po (some (vI 1)) w) (hno : (x < 0 ∨ nI n ≤ x) → po (some (vI 0)) w) : Ctr l E 1 0 mX5_isPlace [vR 30, vI x] w po noX := by
  refine Ctr.of (tw := []) G.1 G.2 oX5_ok pgX5_isPlace rfl (by decide) rfl rfl (Nat.le_of_ble_eq_true rfl) ?_
  intro V hV
  iterate 2 refine hV.go rfl ?_
  refine And.intro (fun hc => ?_) (fun hc => ?_)
  · repeat refine hV.go rfl ?_
    exact ⟨Or.inl rfl, hno (Or.inl hc), Nat.le_refl _⟩
  · have hc : ¬ x < 0 := hc
    iterate 3 refine hV.go rfl ?_
    refine topI (V := V) h1 ?_
    refine hV.go rfl ?_
    rcases bnd x (n := n) (by omega) with ⟨k, hk, rfl⟩ | hb
    · refine And.intro (fun hc2 => ?_) (fun hc2 => ?_)
      · have hc2 : nI n ≤ nI k := hc2
        rw [nI_leI (by omega) (by omega)] at hc2
        omega
      · repeat refine hV.go rfl ?_
        exact ⟨Or.inr rfl, hy k hk rfl, Nat.le_refl _⟩
    · refine And.intro (fun hc2 => ?_) (fun hc2 => ?_)
      · repeat refine hV.go rfl ?_
        exact ⟨Or.inl rfl, hno hb, Nat.le_refl _⟩
      · have hc2 : ¬ nI n ≤ x := hc2
        rcases hb with hb | hb
        · exact absurd hb hc
        · exact absurd hb hc2
theorem m_stickers {w : Wd} {A : AS} {x : Int32} {po : Option AV → Wd → Prop} (G : GM l E) (hw : QI w A) (h1 : ∀ n, 1 ≤ n → n ≤ 12 → x = nI n → ∀ u, QI u (n, [], idp, A.2.2.2.1, A.2.2.2.2) → Sm mdK w u → po (some (vI 1)) u) (h2 : (∀ n, 1 ≤ n → n ≤ 12 → x ≠ nI n) → ∀ u, QI u A → Sm mdK w u → po (some (vI 0)) u) : Ctr l E 1 0 mX5_stickers [vR 30, vI x] w po noX := by
  refine Ctr.of (tw := []) G.1 G.2 oX5_ok pgX5_stickers rfl (by decide) rfl rfl (Nat.le_of_ble_eq_true rfl) ?_
  intro V hV
  iterate 6 refine hV.go rfl ?_
  refine And.intro (fun hc => ?_) (fun hc => ?_)
  · have hc : x < nI 1 := hc
    repeat refine hV.go rfl ?_
    refine ⟨Or.inl rfl, h2 (fun n a b e => ?_) _ (hw.th _) (Sm.wI (k := 30) Sm.rf (by decide)), Nat.le_refl _⟩
    rw [e, nI_ltI (by omega) (by decide)] at hc
    omega
  · have hc : ¬ x < nI 1 := hc
    iterate 3 refine hV.go rfl ?_
    refine And.intro (fun hc2 => ?_) (fun hc2 => ?_)
    · have hc2 : x ≤ nI 12 := hc2
      have hx0 : ¬ x < 0 := fun z => hc (Int32.lt_trans z (by decide))
      obtain ⟨n, hn, rfl⟩ : ∃ k, k ≤ 12 ∧ x = nI k := nI_of2 (M := nI 12) (nI_toInt (by decide)) hx0 hc2
      have hn1 : 1 ≤ n := by
        rw [nI_ltI (by omega) (by decide)] at hc
        omega
      have loop : ∀ c i : Nat, i + c = 12 → ∀ u, Sm [30, 32] w u → u.1 30 0 1 = nI n → u.1 30 0 2 = 0 → u.1 30 0 7 = 0 → u.1 30 0 5 = w.1 30 0 5 → u.1 30 0 16 = w.1 30 0 16 → (∀ p, p < i → u.1 32 0 p = nI p) → V 35 [some (vR 30), some (vI (nI n)), some (vI (nI i))] [] u 0 := by
        intro c
        induction c with
        | zero =>
          intro i hi u hs u1 u2 u7 u5 u16 ht
          iterate 3 refine hV.go rfl ?_
          refine And.intro (fun _ => ?_) (fun hc => absurd (show nI 12 ≤ nI i from nI_le (by omega) (by omega)) hc)
          repeat refine hV.go rfl ?_
          exact ⟨Or.inr rfl, h1 n hn1 hn rfl u ⟨⟨⟨hn1, hn⟩, ⟨Nat.zero_le _, fun t ht => by cases ht⟩, Lw.id n, u1, u2.trans nI_0.symm, (fun i t h => by cases h), fun p hp => ht p (by omega)⟩, hw.2.1.cg u5 (hs 33 (by decide)).1, hw.2.2.1.cg u16 (hs 41 (by decide)).1, Or.inl u7⟩ (hs.mono (by decide)), Nat.le_refl _⟩
        | succ c ih =>
          intro i hi u hs u1 u2 u7 u5 u16 ht
          iterate 3 refine hV.go rfl ?_
          refine And.intro (fun hc => ?_) (fun _ => ?_)
          · have hc : nI 12 ≤ nI i := hc
            rw [nI_leI (by omega) (by omega)] at hc
            omega
          iterate 5 refine hV.go rfl ?_
          refine Exists.intro i (And.intro rfl (And.intro (show i < 12 by omega) ?_))
          iterate 2 refine hV.go rfl ?_
          have e : ∀ j, (wI u 32 0 i (nI i)).1 30 0 j = u.1 30 0 j := fun j => wI_ne (by omega)
          have := ih (i + 1) (by omega) (wI u 32 0 i (nI i)) (Sm.wI (k := 32) hs (by decide)) (by rw [e]; exact u1) (by rw [e]; exact u2) (by rw [e]; exact u7) (by rw [e]; exact u5) (by rw [e]; exact u16) (fun p hp => by
            by_cases ep : p = i
            · rw [ep, wI_eq]
            · rw [wI_ne (by omega)]
              exact ht p (by omega))
          rw [← nI_inc i] at this
          exact this
      iterate 9 refine hV.go rfl ?_
      refine And.intro (Or.inl rfl) ?_
      iterate 2 refine hV.go rfl ?_
      refine loop 12 0 rfl _ (Sm.wI (k := 30) (Sm.wI (k := 30) (Sm.wI (k := 30) (Sm.wI (k := 30) Sm.rf (by decide)) (by decide)) (by decide)) (by decide)) ?_ ?_ ?_ ?_ ?_ (fun p hp => by omega)
      · simp [wI_get]
      · simp [wI_get]
      · simp [wI_get]
      · simp [wI_get]
      · simp [wI_get]
    · have hc2 : ¬ x ≤ nI 12 := hc2
      repeat refine hV.go rfl ?_
      refine ⟨Or.inl rfl, h2 (fun n a b e => ?_) _ (hw.th _) (Sm.wI (k := 30) Sm.rf (by decide)), Nat.le_refl _⟩
      rw [e, nI_leI (by omega) (by decide)] at hc2
      omega
theorem m_cut {w : Wd} {A : AS} {n : Int32} {po : Option AV → Wd → Prop} (G : GM l E) (hw : QI w A) (h1 : ∀ k, n = nI k → k ≤ A.2.2.2.1.length → ∀ u, QI u (A.1, A.2.1, A.2.2.1, A.2.2.2.1.take k, A.2.2.2.2) → Sm mdK w u → po (some (vI 1)) u) (h2 : (∀ k, n = nI k → ¬ k ≤ A.2.2.2.1.length) → ∀ u, QI u A → Sm mdK w u → po (some (vI 0)) u) : Ctr l E 1 0 mX5_cut [vR 30, vI n] w po noX := by
  refine Ctr.of (tw := []) G.1 G.2 oX5_ok pgX5_cut rfl (by decide) rfl rfl (Nat.le_of_ble_eq_true rfl) ?_
  intro V hV
  obtain ⟨x1, x2, x3⟩ := id hw.2.1
  have sm : Sm mdK w (wI w 30 0 0 0) := Sm.wI (k := 30) Sm.rf (by decide)
  iterate 5 refine hV.go rfl ?_
  refine And.intro (fun hc => ?_) (fun hc => ?_)
  · have hc : n < nI 0 := hc
    repeat refine hV.go rfl ?_
    refine ⟨Or.inl rfl, h2 (fun k hk hok => ?_) _ (hw.th _) sm, Nat.le_refl _⟩
    rw [hk, nI_ltI (by omega) (by decide)] at hc
    omega
  · have hc : ¬ n < nI 0 := hc
    iterate 3 refine hV.go rfl ?_
    refine topI (V := V) (show (wI w 30 0 0 0).1 30 0 5 = nI A.2.2.2.1.length by rw [wI_ne (by decide)]; exact x1) ?_
    refine hV.go rfl ?_
    refine And.intro (fun hc2 => ?_) (fun hc2 => ?_)
    · have hc2 : n ≤ nI A.2.2.2.1.length := hc2
      obtain ⟨k, hk, rfl⟩ : ∃ k, k ≤ A.2.2.2.1.length ∧ n = nI k := nI_of2 (M := nI A.2.2.2.1.length) (nI_toInt (by omega)) hc hc2
      repeat refine hV.go rfl ?_
      have hq := hw.th 0
      have hs : Sm [30] (wI w 30 0 0 0) (wI (wI w 30 0 0 0) 30 0 5 (nI k)) := Sm.wI (k := 30) Sm.rf (by decide)
      have e : ∀ j, j ≠ 5 → (wI (wI w 30 0 0 0) 30 0 5 (nI k)).1 30 0 j = (wI w 30 0 0 0).1 30 0 j := fun j hj => wI_ne (by omega)
      refine ⟨Or.inr rfl, h1 k rfl hk _ ⟨hq.1.cg (e 1 (by decide)) (e 2 (by decide)) (hs 31 (by decide)).1 (hs 32 (by decide)).1, ⟨?_, ?_, fun i a ha => ?_⟩, hq.2.2.1.cg (e 16 (by decide)) (hs 41 (by decide)).1, hq.2.2.2.cg (e 7 (by decide)) (e 13 (by decide)) (hs 34 (by decide)).1 (hs 35 (by decide)).1 (hs 39 (by decide)).1⟩ (sm.tr (hs.mono (by decide))), Nat.le_refl _⟩
      · simp [wI_get, Nat.min_eq_left hk]
      · simp; omega
      · have := List.getElem?_take.symm.trans ha
        split at this
        · rw [wI_ne (by omega), wI_ne (by omega)]
          exact x3 i a this
        · cases this
    · have hc2 : ¬ n ≤ nI A.2.2.2.1.length := hc2
      repeat refine hV.go rfl ?_
      refine ⟨Or.inl rfl, h2 (fun k hk hok => ?_) _ (hw.th _) sm, Nat.le_refl _⟩
      rw [hk, nI_leI (by omega) (by omega)] at hc2
      omega
theorem m_turns {w : Wd} {A : AS} {po : Option AV → Wd → Prop} (G : GM l E) (hw : QI w A) (hpo : ∀ u, QI u A → Sm mdK w u → po (some (vI (nI A.2.1.length))) u) : Ctr l E 1 0 mX5_turns [vR 30] w po noX := by
  refine Ctr.of (tw := []) G.1 G.2 oX5_ok pgX5_turns rfl (by decide) rfl rfl (Nat.le_of_ble_eq_true rfl) ?_
  intro V hV
  iterate 5 refine hV.go rfl ?_
  refine topI (V := V) (hw.th 0).1.2.2.2.2.1 ?_
  refine hV.go rfl ?_
  exact ⟨hpo _ (hw.th _) (Sm.wI (k := 30) Sm.rf (by decide)), Nat.le_refl _⟩
theorem m_image {w : Wd} {A : AS} {x y : Int32} {po : Option AV → Wd → Prop} (G : GM l E) (hw : QI w A) (h1 : ∀ i p t, A.2.1[i]? = some t → p < A.1 → x = nI i → y = nI p → ∀ u, QI u A → u.1 30 0 0 = 0 → Sm mdK w u → po (some (vI (nI (t p)))) u) (h2 : ((x < 0 ∨ nI A.2.1.length ≤ x) ∨ (y < 0 ∨ nI A.1 ≤ y)) → ∀ u, QI u A → u.1 30 0 0 = 1 → Sm mdK w u → po (some (vI 0)) u) : Ctr l E 2 0 mX5_image [vR 30, vI x, vI y] w po noX := by
  refine Ctr.of (tw := []) G.1 G.2 oX5_ok pgX5_image rfl (by decide) rfl rfl (Nat.le_of_ble_eq_true rfl) ?_
  intro V hV
  obtain ⟨n1, n2, n3, n4, n5, n6, n7⟩ := id hw.1
  have bad : ((x < 0 ∨ nI A.2.1.length ≤ x) ∨ (y < 0 ∨ nI A.1 ≤ y)) → V 21 [some (vR 30), some (vI x), some (vI y)] [vR 30] w 0 := by
    intro hb
    iterate 5 refine hV.go rfl ?_
    refine topI (V := V) (show (wI w 30 0 0 1).1 30 0 0 = 1 from wI_eq) ?_
    refine hV.go rfl ?_
    refine And.intro (fun hc => absurd (show (1 : Int32) ≤ 0 from hc) (by decide)) (fun _ => ?_)
    repeat refine hV.go rfl ?_
    exact ⟨h2 hb _ (hw.th _) wI_eq (Sm.wI (k := 30) Sm.rf (by decide)), Nat.le_refl _⟩
  iterate 3 refine hV.go rfl ?_
  refine And.intro (fun hc => bad (Or.inl (Or.inl hc))) (fun hc => ?_)
  have hc : ¬ x < 0 := hc
  iterate 3 refine hV.go rfl ?_
  refine topI (V := V) n5 ?_
  refine hV.go rfl ?_
  refine And.intro (fun hc2 => bad (Or.inl (Or.inr hc2))) (fun hc2 => ?_)
  have hc2 : ¬ nI A.2.1.length ≤ x := hc2
  iterate 3 refine hV.go rfl ?_
  refine And.intro (callP_r (m_isPlace (po := fun v z => z = w ∧ ((v = some (vI 1) ∧ ∃ p, p < A.1 ∧ y = nI p) ∨ (v = some (vI 0) ∧ (y < 0 ∨ nI A.1 ≤ y)))) G n4 n1.2 (fun k hk e => ⟨rfl, Or.inl ⟨rfl, k, hk, e⟩⟩) (fun h => ⟨rfl, Or.inr ⟨rfl, h⟩⟩)) (by decide) (by decide) (fun v z hq => ?_)) trivial
  obtain ⟨rfl, ⟨rfl, p, hp, rfl⟩ | ⟨rfl, hb⟩⟩ := hq
  · refine hV.go rfl ?_
    refine And.intro (fun _ => ?_) (fun hc => absurd (show ¬ (1 : Int32) = 0 by decide) hc)
    rcases bnd x (n := A.2.1.length) (by omega) with ⟨i, hi, rfl⟩ | hb
    · have ht : A.2.1[i]? = some A.2.1[i] := List.getElem?_eq_getElem hi
      iterate 4 refine hV.go rfl ?_
      refine topI (V := V) (show (wI z 30 0 0 0).1 30 0 0 = 0 from wI_eq) ?_
      refine hV.go rfl ?_
      refine And.intro (fun _ => ?_) (fun hc => absurd (show (0 : Int32) ≤ 0 by decide) hc)
      iterate 5 refine hV.go rfl ?_
      refine topI (V := V) (nI_mul 12 i) ?_
      iterate 2 refine hV.go rfl ?_
      refine topI (V := V) (nI_add _ _) ?_
      refine hV.go rfl ?_
      refine Exists.intro (12 * i + p) (And.intro rfl (And.intro (show 12 * i + p < 120 by omega) ?_))
      refine topI (V := V) (((hw.th 0).1.2.2.2.2.2.1 i _ ht p (by omega)).1) ?_
      refine hV.go rfl ?_
      exact ⟨h1 i p _ ht hp rfl rfl _ (hw.th _) wI_eq (Sm.wI (k := 30) Sm.rf (by decide)), Nat.le_refl _⟩
    · rcases hb with hb | hb
      · exact absurd hb hc
      · exact absurd hb hc2
  · refine hV.go rfl ?_
    refine And.intro (fun hc => absurd rfl (show ¬ (0 : Int32) = 0 from hc)) (fun _ => ?_)
    exact bad (Or.inr hb)
end
