/-! the text -/
def TxW (w : Wd) (tx : List Nat) : Prop := w.1 1 0 3 = nI tx.length ∧ tx.length ≤ 48 ∧ ∀ i c, tx[i]? = some c → w.1 7 0 i = nI c ∧ c < 128
abbrev txK : List Nat := [1, 7, 8, 9]
def byt (x : Int64) (i : Nat) : Nat := x.toBitVec.toNat / 2 ^ (8 * i) % 256
theorem and255 (n : Nat) : nI n &&& (Int16.ofInt 255).toInt32 = nI (n % 256) := by
  rw [show (Int16.ofInt 255).toInt32 = nI (2 ^ 8 - 1) from rfl]
  apply Int32.toBitVec_inj.mp
  apply BitVec.eq_of_toNat_eq
  show ((BitVec.ofNat 32 _) &&& (BitVec.ofNat 32 _)).toNat = (BitVec.ofNat 32 _).toNat
  rw [BitVec.toNat_and, BitVec.toNat_ofNat, BitVec.toNat_ofNat, BitVec.toNat_ofNat]
  rw [Nat.mod_eq_of_lt (show 2 ^ 8 - 1 < 2 ^ 32 by decide), Nat.and_two_pow_sub_one_eq_mod, Nat.mod_eq_of_lt (show n % 256 < 2 ^ 32 by omega)]
  rw [show (2 : Nat) ^ 32 = 256 * 2 ^ 24 from rfl, show (2 : Nat) ^ 8 = 256 from rfl, Nat.mod_mul_right_mod]
theorem byt_eq (x : Int64) {i : Nat} (hi : i < 8) : (x.toUInt64 >>> (((Int8.ofInt 8).toInt32 * nI i).toInt64.toUInt64 &&& Int64.toUInt64 63)).toInt64.toInt32 &&& (Int16.ofInt 255).toInt32 = nI (byt x i) := by
  obtain ⟨n, hn, rfl⟩ := wb_of x
  rw [show (Int8.ofInt 8).toInt32 = nI 8 from rfl, pk_mul, wb_shr hn (by omega), lN_i, and255]
  unfold byt
  rw [wb_tn hn]
theorem byt_lt (x : Int64) (i : Nat) : byt x i < 256 := Nat.mod_lt _ (by decide)
theorem nar_char {c : Nat} (h : c < 65536) : vp_nar .char (nI c) = nI c := by
  rw [vp_nar_char]
  exact lg_i2c_small (by rw [nI_toInt (by omega)]; omega) (by rw [nI_toInt (by omega)]; omega)
theorem i2c_nI {c : Nat} (h : c < 65536) : ((nI c).toUInt32 % 65536).toInt32 = nI c := lg_i2c_word (by rw [nI_toInt (by omega)]; omega) (by rw [nI_toInt (by omega)]; omega)
/-- what type does -/
def okc (c : Nat) : Prop := 32 ≤ c ∧ c ≤ 126
def tyOk (tx : List Nat) (x : Int64) (k : Nat) : Prop := 1 ≤ k ∧ k ≤ 8 ∧ tx.length + k ≤ 48 ∧ ∀ i, i < k → okc (byt x i)
section
variable {l : Launch} {E : En}
theorem c_byteOf (G : GC l E) (w : Wd) (x : Int64) {i : Nat} (hi : i < 8) : Ctr l E 1 0 mX3_byteOf [vJ x, vI (nI i)] w (fun r u => r = some (vI (nI (byt x i))) ∧ u = w) noX := by
  refine Ctr.of (tw := []) G.1 G.2 oX3_ok pgX3_byteOf rfl (by decide) rfl rfl (Nat.le_of_ble_eq_true rfl) ?_
  intro V hV
  repeat refine hV.go rfl ?_
  exact ⟨⟨congrArg (fun x => some (vI x)) (byt_eq x hi), rfl⟩, Nat.le_refl _⟩
theorem c_addSign {w : Wd} {tx : List Nat} {c : Nat} {po : Option AV → Wd → Prop} (G : GC l E) (hw : TxW w tx) (hl : tx.length < 48) (hc : c < 128) (hpo : ∀ u, TxW u (tx ++ [c]) → Sm txK w u → po none u) : Ctr l E 1 0 mX3_addSign [vR 1, vI (nI c)] w po noX := by
  refine Ctr.of (tw := []) G.1 G.2 oX3_ok pgX3_addSign rfl (by decide) rfl rfl (Nat.le_of_ble_eq_true rfl) ?_
  intro V hV
  obtain ⟨w1, w2, w3⟩ := id hw
  iterate 2 refine hV.go rfl ?_
  refine topI (V := V) w1 ?_
  iterate 2 refine hV.go rfl ?_
  refine And.intro (fun hc => ?_) (fun hc => ?_)
  · have hc : nI 48 ≤ nI tx.length := hc
    rw [nI_leI (by omega) (by omega)] at hc
    omega
  · iterate 4 refine hV.go rfl ?_
    refine topI (V := V) w1 ?_
    iterate 2 refine hV.go rfl ?_
    refine Exists.intro tx.length (And.intro rfl (And.intro hl ?_))
    iterate 3 refine hV.go rfl ?_
    refine topI (V := V) (y := nI tx.length) (by simp only [wI_get]; simpa using w1) ?_
    iterate 2 refine hV.go rfl ?_
    refine topI (V := V) (nI_1 _) ?_
    iterate 2 refine hV.go rfl ?_
    refine ⟨hpo _ ⟨?_, ?_, fun i a ha => ?_⟩ (Sm.wI (k := 1) (Sm.wI (k := 7) Sm.rf (by decide)) (by decide)), Nat.le_refl _⟩
    · simp [wI_get]
    · simp only [List.length_append, List.length_cons, List.length_nil]; omega
    · simp only [wI_get]
      by_cases hi : i < tx.length
      · rw [List.getElem?_append_left hi] at ha
        simpa [show ¬ i = tx.length by omega] using w3 i a ha
      · rw [List.getElem?_append_right (by omega)] at ha
        have hi2 : i - tx.length < 1 := (List.getElem?_eq_some_iff.mp ha).1
        have hi3 : i = tx.length := by omega
        subst hi3
        simp at ha
        subst ha
        simp [nar_char (show c < 65536 by omega)]
        assumption
theorem c_append {w : Wd} {tx : List Nat} {x : Int64} {n : Int32} {po : Option AV → Wd → Prop} (G : GC l E) (hw : TxW w tx) (h1 : ∀ k, n = nI k → tyOk tx x k → ∀ u, TxW u (tx ++ (List.range k).map (byt x)) → Sm txK w u → po (some (vI 1)) u) (h2 : (∀ k, n = nI k → ¬ tyOk tx x k) → po (some (vI 0)) w) : Ctr l E 2 0 mX3_append [vR 1, vJ x, vI n] w po noX := by
  refine Ctr.of (tw := []) G.1 G.2 oX3_ok pgX3_append rfl (by decide) rfl rfl (Nat.le_of_ble_eq_true rfl) ?_
  intro V hV
  obtain ⟨w1, w2, w3⟩ := id hw
  repeat refine hV.go rfl ?_
  refine And.intro (fun hc => ?_) (fun hc => ?_)
  · have hc : n < nI 1 := hc
    repeat refine hV.go rfl ?_
    refine ⟨Or.inl rfl, h2 (fun k hk hok => ?_), Nat.le_refl _⟩
    rw [hk, nI_ltI (by have := hok.2.1; omega) (by decide)] at hc
    have := hok.1
    omega
  · have hc : ¬ n < nI 1 := hc
    repeat refine hV.go rfl ?_
    refine And.intro (fun hc2 => ?_) (fun hc2 => ?_)
    · have hc2 : nI 8 < n := hc2
      repeat refine hV.go rfl ?_
      refine ⟨Or.inl rfl, h2 (fun k hk hok => ?_), Nat.le_refl _⟩
      rw [hk, nI_ltI (by decide) (by have := hok.2.1; omega)] at hc2
      have := hok.2.1
      omega
    · have hc2 : ¬ nI 8 < n := hc2
      obtain ⟨k, hk8, rfl⟩ : ∃ k, k ≤ 8 ∧ n = nI k := nI_of2 (M := nI 8) (by decide) (fun z => hc (Int32.lt_trans z (by decide))) (Int32.not_lt.mp hc2)
      rw [nI_ltI (by omega) (by decide)] at hc
      iterate 2 refine hV.go rfl ?_
      refine topI (V := V) w1 ?_
      iterate 2 refine hV.go rfl ?_
      refine topI (V := V) (nI_add _ _) ?_
      iterate 2 refine hV.go rfl ?_
      have huniq : ∀ k', nI k = nI k' → k' ≤ 8 → k' = k := fun k' e h => ((nI_eq (by omega) (by omega)).mp e).symm
      refine And.intro (fun hc3 => ?_) (fun hc3 => ?_)
      · have hc3 : nI (tx.length + k) ≤ nI 48 := hc3
        rw [nI_leI (by omega) (by omega)] at hc3
        have loop2 : ∀ c j : Nat, j + c = k → (∀ i, i < k → okc (byt x i)) → ∀ u, TxW u (tx ++ (List.range j).map (byt x)) → Sm txK w u → ∀ x5, V 66 [some (vR 1), some (vJ x), none, some (vI (nI k)), some (vI (nI j)), x5] [] u 0 := by
          intro c
          induction c with
          | zero =>
            intro j hj hall u hu hsm x5
            have : j = k := by omega
            subst this
            repeat refine hV.go rfl ?_
            refine And.intro (fun hc => ?_) (fun hc => ?_)
            · repeat refine hV.go rfl ?_
              exact ⟨Or.inr rfl, h1 j rfl ⟨by omega, by omega, by omega, hall⟩ u hu hsm, Nat.le_refl _⟩
            · exact absurd (show nI j ≤ nI j from nI_le (Nat.le_refl _) (by omega)) hc
          | succ c ih =>
            intro j hj hall u hu hsm x5
            have hb := hall j (by omega)
            repeat refine hV.go rfl ?_
            refine And.intro (fun hc => ?_) (fun hc => ?_)
            · have hc : nI k ≤ nI j := hc
              rw [nI_leI (by omega) (by omega)] at hc
              omega
            · repeat refine hV.go rfl ?_
              refine And.intro (callP_v (c_byteOf G u x (show j < 8 by omega)) (by decide) (by decide) ?_) trivial
              refine hV.go rfl ?_
              refine topI (V := V) (i2c_nI (by have := byt_lt x j; omega)) ?_
              refine hV.go rfl ?_
              refine And.intro (callP_r (c_addSign (c := byt x j) (po := fun v z => v = none ∧ TxW z (tx ++ (List.range j).map (byt x) ++ [byt x j]) ∧ Sm txK u z) G hu (by simp; omega) (by have := hb.2; omega) (fun z y1 y2 => ⟨rfl, y1, y2⟩)) (by decide) (by decide) (fun v z hp => ?_)) trivial
              obtain ⟨rfl, y1, y2⟩ := hp
              iterate 2 refine hV.go rfl ?_
              have := ih (j + 1) (by omega) hall z (by
                rw [List.range_succ, List.map_append, ← List.append_assoc]
                exact y1) (hsm.tr y2) x5
              rw [← nI_inc] at this
              exact this
        have loop1 : ∀ c j : Nat, j + c = k → (∀ i, i < j → okc (byt x i)) → ∀ x5, V 27 [some (vR 1), some (vJ x), none, some (vI (nI k)), some (vI (nI j)), x5] [] w 0 := by
          intro c
          induction c with
          | zero =>
            intro j hj hall x5
            have : j = k := by omega
            subst this
            repeat refine hV.go rfl ?_
            refine And.intro (fun hc => ?_) (fun hc => ?_)
            · iterate 2 refine hV.go rfl ?_
              exact loop2 j 0 (by omega) hall w (by simpa using hw) Sm.rf x5
            · exact absurd (show nI j ≤ nI j from nI_le (Nat.le_refl _) (by omega)) hc
          | succ c ih =>
            intro j hj hall x5
            have hb := byt_lt x j
            repeat refine hV.go rfl ?_
            refine And.intro (fun hc => ?_) (fun hc => ?_)
            · have hc : nI k ≤ nI j := hc
              rw [nI_leI (by omega) (by omega)] at hc
              omega
            · repeat refine hV.go rfl ?_
              refine And.intro (callP_v (c_byteOf G w x (show j < 8 by omega)) (by decide) (by decide) ?_) trivial
              repeat refine hV.go rfl ?_
              refine And.intro (fun hc => ?_) (fun hc => ?_)
              · have hc : nI (byt x j) < nI 32 := hc
                rw [nI_ltI (by omega) (by omega)] at hc
                repeat refine hV.go rfl ?_
                refine ⟨Or.inl rfl, h2 (fun k' hk' hok => ?_), Nat.le_refl _⟩
                have := huniq k' hk' hok.2.1
                subst this
                have := (hok.2.2.2 j (by omega)).1
                omega
              · have hc : ¬ nI (byt x j) < nI 32 := hc
                rw [nI_ltI (by omega) (by omega)] at hc
                repeat refine hV.go rfl ?_
                refine And.intro (fun hc2 => ?_) (fun hc2 => ?_)
                · have hc2 : nI (byt x j) ≤ nI 126 := hc2
                  rw [nI_leI (by omega) (by omega)] at hc2
                  iterate 2 refine hV.go rfl ?_
                  have := ih (j + 1) (by omega) (fun i hi => by
                    by_cases e : i = j
                    · subst e
                      exact ⟨by omega, by omega⟩
                    · exact hall i (by omega)) (some (vI (nI (byt x j))))
                  rw [← nI_inc] at this
                  exact this
                · have hc2 : ¬ nI (byt x j) ≤ nI 126 := hc2
                  rw [nI_leI (by omega) (by omega)] at hc2
                  repeat refine hV.go rfl ?_
                  refine ⟨Or.inl rfl, h2 (fun k' hk' hok => ?_), Nat.le_refl _⟩
                  have := huniq k' hk' hok.2.1
                  subst this
                  have := (hok.2.2.2 j (by omega)).2
                  omega
        iterate 2 refine hV.go rfl ?_
        exact loop1 k 0 (by omega) (fun i hi => by omega) none
      · have hc3 : ¬ nI (tx.length + k) ≤ nI 48 := hc3
        rw [nI_leI (by omega) (by omega)] at hc3
        repeat refine hV.go rfl ?_
        refine ⟨Or.inl rfl, h2 (fun k' hk' hok => ?_), Nat.le_refl _⟩
        have := huniq k' hk' hok.2.1
        subst this
        have := hok.2.2.1
        omega
theorem c_shorten {w : Wd} {tx : List Nat} {n : Int32} {po : Option AV → Wd → Prop} (G : GC l E) (hw : TxW w tx) (h1 : ∀ k, n = nI k → k ≤ tx.length → ∀ u, TxW u (tx.take k) → Sm txK w u → po (some (vI 1)) u) (h2 : (∀ k, n = nI k → ¬ k ≤ tx.length) → po (some (vI 0)) w) : Ctr l E 1 0 mX3_shorten [vR 1, vI n] w po noX := by
  refine Ctr.of (tw := []) G.1 G.2 oX3_ok pgX3_shorten rfl (by decide) rfl rfl (Nat.le_of_ble_eq_true rfl) ?_
  intro V hV
  obtain ⟨w1, w2, w3⟩ := id hw
  repeat refine hV.go rfl ?_
  refine And.intro (fun hc => ?_) (fun hc => ?_)
  · have hc : n < nI 0 := hc
    repeat refine hV.go rfl ?_
    refine ⟨Or.inl rfl, h2 (fun k hk hok => ?_), Nat.le_refl _⟩
    rw [hk, nI_ltI (by omega) (by decide)] at hc
    omega
  · have hc : ¬ n < nI 0 := hc
    iterate 3 refine hV.go rfl ?_
    refine topI (V := V) w1 ?_
    refine hV.go rfl ?_
    refine And.intro (fun hc2 => ?_) (fun hc2 => ?_)
    · have hc2 : n ≤ nI tx.length := hc2
      obtain ⟨k, hk, rfl⟩ : ∃ k, k ≤ tx.length ∧ n = nI k := nI_of2 (M := nI tx.length) (nI_toInt (by omega)) hc hc2
      repeat refine hV.go rfl ?_
      refine ⟨Or.inr rfl, h1 k rfl hk _ ⟨?_, ?_, fun i a ha => ?_⟩ (Sm.wI (k := 1) Sm.rf (by decide)), Nat.le_refl _⟩
      · simp [wI_get, Nat.min_eq_left hk]
      · simp; omega
      · have := List.getElem?_take.symm.trans ha
        split at this
        · simp only [wI_get]
          simpa using w3 i a this
        · cases this
    · have hc2 : ¬ n ≤ nI tx.length := hc2
      repeat refine hV.go rfl ?_
      refine ⟨Or.inl rfl, h2 (fun k hk hok => ?_), Nat.le_refl _⟩
      rw [hk, nI_leI (by omega) (by omega)] at hc2
      omega
/-- character i, as an int -/
def chI (tx : List Nat) (i : Int32) : Int32 := if ¬ i < 0 ∧ i < nI tx.length then nI (tx.getD i.toNatClampNeg 0) else 0
theorem c_signAt {w : Wd} {tx : List Nat} {n : Int32} (G : GC l E) (hw : TxW w tx) : Ctr l E 1 0 mX3_signAt [vR 1, vI n] w (fun r u => r = some (vI (chI tx n)) ∧ u = w) noX := by
  refine Ctr.of (tw := []) G.1 G.2 oX3_ok pgX3_signAt rfl (by decide) rfl rfl (Nat.le_of_ble_eq_true rfl) ?_
  intro V hV
  obtain ⟨w1, w2, w3⟩ := id hw
  repeat refine hV.go rfl ?_
  refine And.intro (fun hc => ?_) (fun hc => ?_)
  · have hc : n < 0 := hc
    repeat refine hV.go rfl ?_
    refine ⟨⟨?_, rfl⟩, Nat.le_refl _⟩
    unfold chI
    rw [if_neg (fun z => z.1 hc)]
    rfl
  · have hc : ¬ n < 0 := hc
    iterate 3 refine hV.go rfl ?_
    refine topI (V := V) w1 ?_
    refine hV.go rfl ?_
    refine And.intro (fun hc2 => ?_) (fun hc2 => ?_)
    · have hc2 : nI tx.length ≤ n := hc2
      repeat refine hV.go rfl ?_
      refine ⟨⟨?_, rfl⟩, Nat.le_refl _⟩
      unfold chI
      rw [if_neg (fun z => absurd z.2 (Int32.not_lt.mpr hc2))]
      rfl
    · have hc2 : n < nI tx.length := Int32.not_le.mp hc2
      obtain ⟨k, hk31, rfl⟩ := nI_of hc
      have hk : k < tx.length := (nI_ltI hk31 (by omega)).mp hc2
      repeat refine hV.go rfl ?_
      refine Exists.intro k (And.intro rfl (And.intro (show k < 48 by omega) ?_))
      have hget : tx[k]? = some tx[k] := List.getElem?_eq_getElem hk
      refine topI (V := V) (w3 k _ hget).1 ?_
      repeat refine hV.go rfl ?_
      refine ⟨⟨?_, rfl⟩, Nat.le_refl _⟩
      unfold chI
      rw [if_pos ⟨hc, hc2⟩, nI_clamp hk31, List.getD_eq_getElem?_getD, hget]
      rfl
end
