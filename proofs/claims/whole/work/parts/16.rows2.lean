section
variable {l : Launch} {E : En}
theorem lN_xor1 {a : Nat} (ha : a < 2 ^ 64) : lN a ^^^ (-1) = lN (a ^^^ (2 ^ 64 - 1)) := by
  rw [show (-1 : Int64) = lN (2 ^ 64 - 1) by decide]
  apply wb_inj
  rw [Int64.toBitVec_xor, wb_tb, wb_tb, wb_tb]
  apply BitVec.eq_of_toNat_eq
  rw [BitVec.toNat_xor, BitVec.toNat_ofNat, BitVec.toNat_ofNat, BitVec.toNat_ofNat, Nat.mod_eq_of_lt ha, Nat.mod_eq_of_lt (show 2 ^ 64 - 1 < 2 ^ 64 by decide), Nat.mod_eq_of_lt (Nat.xor_lt_two_pow ha (by decide))]
theorem sh15 {v i : Nat} (hv : v < 16) (hi : i < 12) : lN v <<< ((4 * nI i).toInt64 &&& 63) = lN (v * 2 ^ (4 * i)) ∧ v * 2 ^ (4 * i) < 2 ^ 64 := by
  rw [show (4 : Int32) = nI 4 from rfl, pk_mul, wb_shl _ (by omega)]
  refine ⟨rfl, ?_⟩
  have h3 : 2 ^ (4 * i) ≤ 2 ^ 44 := Nat.pow_le_pow_right (by decide) (by omega)
  have h4 : v * 2 ^ (4 * i) ≤ 15 * 2 ^ 44 := Nat.mul_le_mul (by omega) h3
  omega
theorem clr_l {f : Nat → Nat} {i : Nat} (hf : lt16 f) (hi : i < 12) : rw f &&& ((15 <<< ((4 * nI i).toInt64 &&& 63)) ^^^ (-1)) = rw (fun j => if j = i then 0 else f j) := by
  obtain ⟨e1, e2⟩ := sh15 (v := 15) (by decide) hi
  rw [show (15 : Int64) = lN 15 from rfl, e1, lN_xor1 e2]
  unfold rw
  rw [wb_and (by have := enc_64 hf; omega) (Nat.xor_lt_two_pow e2 (by decide)), enc_clr hf (by decide) hi]
theorem or_l {f : Nat → Nat} {i v : Nat} (hf : lt16 f) (hi : i < 12) (h0 : f i = 0) (hv : v < 16) : rw f ||| (lN v <<< ((4 * nI i).toInt64 &&& 63)) = rw (fun j => if j = i then v else f j) := by
  obtain ⟨e1, e2⟩ := sh15 hv hi
  rw [e1]
  unfold rw
  rw [wb_or (by have := enc_64 hf; omega) e2, enc_or hf hi h0 hv]
theorem lt16_if {f : Nat → Nat} {i v : Nat} (hf : lt16 f) (hv : v < 16) : lt16 (fun j => if j = i then v else f j) := fun j hj => by
  show (if j = i then v else f j) < 16
  split
  · exact hv
  · exact hf j hj
theorem rw_congr {f g : Nat → Nat} (h : ∀ i, i < 12 → f i = g i) : rw f = rw g := congrArg lN (enc_congr h)
theorem c_put {f : Nat → Nat} {i v : Nat} (G : GC l E) (hf : lt16 f) (hi : i < 12) (hv : v < 16) (w : Wd) : Ctr l E 1 0 mX2_put [vJ (rw f), vI (nI i), vI (nI v)] w (fun r u => r = some (vJ (rw (fun j => if j = i then v else f j))) ∧ u = w) noX := by
  refine Ctr.of (tw := []) G.1 G.2 oX2_ok pgX2_put rfl (by decide) rfl rfl (Nat.le_of_ble_eq_true rfl) ?_
  intro V hV
  iterate 9 refine hV.go rfl ?_
  refine topJ (V := V) (clr_l hf hi) ?_
  iterate 4 refine hV.go rfl ?_
  refine topJ (V := V) (nI_l (show v < 2 ^ 31 by omega)) ?_
  iterate 5 refine hV.go rfl ?_
  refine topJ (V := V) (or_l (f := fun j => if j = i then 0 else f j) (lt16_if hf (by decide)) hi (by simp) hv) ?_
  refine hV.go rfl ?_
  refine ⟨⟨congrArg (fun x => some (vJ x)) (rw_congr (fun j hj => ?_)), rfl⟩, Nat.le_refl _⟩
  show (if j = i then v else if j = i then 0 else f j) = if j = i then v else f j
  split
  · rfl
  · rfl
theorem c_exchange {a b : Nat} (G : GC l E) (ha : a < 12) (hb : b < 12) (w : Wd) : Ctr l E 2 0 mX2_exchange [vI (nI a), vI (nI b)] w (fun r u => r = some (vJ (rw (fun j => if j = b then a else if j = a then b else j))) ∧ u = w) noX := by
  refine Ctr.of (tw := []) G.1 G.2 oX2_ok pgX2_exchange rfl (by decide) rfl rfl (Nat.le_of_ble_eq_true rfl) ?_
  intro V hV
  refine hV.go rfl ?_
  refine topJ (V := V) rw_id ?_
  iterate 2 refine hV.go rfl ?_
  refine hV.go rfl ?_
  refine And.intro (callP_v (c_put (v := b) G Pm.id.lt16 ha (by omega) w) (by decide) (by decide) ?_) trivial
  iterate 2 refine hV.go rfl ?_
  refine hV.go rfl ?_
  refine And.intro (callP_v (c_put (f := fun j => if j = a then b else idp j) (v := a) G (lt16_if Pm.id.lt16 (by omega)) hb (by omega) w) (by decide) (by decide) ?_) trivial
  refine hV.go rfl ?_
  exact ⟨⟨rfl, rfl⟩, Nat.le_refl _⟩
theorem c_back {f : Nat → Nat} (G : GC l E) (hf : Pm f) (w : Wd) : Ctr l E 1 0 mX2_back [vJ (rw f)] w (fun r u => r = some (vJ (rw (iv f))) ∧ u = w) noX := by
  refine Ctr.of (tw := []) G.1 G.2 oX2_ok pgX2_back rfl (by decide) rfl rfl (Nat.le_of_ble_eq_true rfl) ?_
  intro V hV
  have hiv := hf.iv
  have loop : ∀ k j : Nat, j + k = 12 → ∀ x5 : Option AV, V 5 [some (vJ (rw f)), none, some (vJ (rw (fun p => if iv f p < j then iv f p else 0))), none, some (vI (nI j)), x5] [] w 0 := by
    intro k
    induction k with
    | zero =>
      intro j hj x5
      have : j = 12 := by omega
      subst this
      repeat refine hV.go rfl ?_
      refine And.intro (fun hc => ?_) (fun hc => ?_)
      · repeat refine hV.go rfl ?_
        refine ⟨⟨congrArg (fun x => some (vJ x)) (rw_congr (fun p hp => ?_)), rfl⟩, Nat.le_refl _⟩
        exact if_pos (hiv.1 p hp)
      · exact absurd (show nI 12 ≤ nI 12 from nI_le (Nat.le_refl _) (by decide)) hc
    | succ k ih =>
      intro j hj x5
      repeat refine hV.go rfl ?_
      refine And.intro (fun hc => ?_) (fun hc => ?_)
      · have hc : nI 12 ≤ nI j := hc
        rw [nI_leI (by decide) (by omega)] at hc
        omega
      · iterate 8 refine hV.go rfl ?_
        refine topI (V := V) (rw_at hf.lt16 (by omega)) ?_
        iterate 4 refine hV.go rfl ?_
        refine topJ (V := V) (nI_l (show j < 2 ^ 31 by omega)) ?_
        iterate 5 refine hV.go rfl ?_
        refine topJ (V := V) (or_l (f := fun p => if iv f p < j then iv f p else 0) (fun p hp => by
          have := hiv.1 p hp
          simp only
          split
          · omega
          · decide) (hf.1 j (by omega)) (by
          simp only [hf.iv_l]
          rw [if_neg (by omega)]) (by omega)) ?_
        iterate 3 refine hV.go rfl ?_
        have := ih (j + 1) (by omega) (some (vI (nI (f j))))
        rw [← nI_inc] at this
        have e : rw (fun p => if iv f p < j + 1 then iv f p else 0) = rw (fun p => if p = f j then j else if iv f p < j then iv f p else 0) := rw_congr (fun p hp => by
          by_cases hpj : p = f j
          · subst hpj
            simp [hf.iv_l]
          · have h9 : iv f p ≠ j := fun z => hpj (by rw [← z, hf.iv_r])
            simp only [hpj, if_false]
            by_cases h8 : iv f p < j
            · rw [if_pos h8, if_pos (by omega)]
            · rw [if_neg h8, if_neg (by omega)])
        rw [e] at this
        exact this
  iterate 2 refine hV.go rfl ?_
  iterate 2 refine hV.go rfl ?_
  have := loop 12 0 (by omega) none
  have e : rw (fun p => if iv f p < 0 then iv f p else 0) = 0 := by
    rw [show (fun p => if iv f p < 0 then iv f p else 0) = fun _ => 0 from funext fun p => if_neg (by omega)]
    decide
  rw [e] at this
  exact this
end
