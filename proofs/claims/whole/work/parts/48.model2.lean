/-! the reference's plain methods -/
theorem dv2 : ∀ i, i < 10 → nI i / 2 = nI (i / 2) ∧ nI i - nI i / 2 * 2 = nI (i % 2) := by decide
theorem mvs_get : ∀ (ts : List (Nat → Nat)) (i : Nat) (m : Nat → Nat), (mvs ts)[i]? = some m → ∃ t, ts[i / 2]? = some t ∧ ((i % 2 = 0 ∧ m = t) ∨ (i % 2 = 1 ∧ m = iv t))
  | [], i, m, h => by cases h
  | a :: r, 0, m, h => by
    cases h
    exact ⟨_, rfl, Or.inl ⟨rfl, rfl⟩⟩
  | a :: r, 1, m, h => by
    cases h
    exact ⟨a, rfl, Or.inr ⟨rfl, rfl⟩⟩
  | a :: r, i + 2, m, h => by
    have h : (mvs r)[i]? = some m := h
    obtain ⟨t, h1, h2⟩ := mvs_get r i m h
    refine ⟨t, ?_, ?_⟩
    · rw [show (i + 2) / 2 = i / 2 + 1 by omega]
      exact h1
    · rw [show (i + 2) % 2 = i % 2 by omega]
      exact h2
theorem QI.tbl {w u : Wd} {A : AS} {tb' : Nat → Nat} (h : QI w A) (hs : Sm [32] w u) (hb : Lw A.1 tb') (ht : ∀ s, s < A.1 → u.1 32 0 s = nI (tb' s)) : QI u (A.1, A.2.1, tb', A.2.2.2.1, A.2.2.2.2) := by
  have e0 := (hs 30 (by decide)).1
  obtain ⟨n1, n2, n3, n4, n5, n6, n7⟩ := h.1
  refine ⟨⟨n1, n2, hb, by rw [e0]; exact n4, by rw [e0]; exact n5, ?_, ht⟩, h.2.1.cg (by rw [e0]) (hs 33 (by decide)).1, h.2.2.1.cg (by rw [e0]) (hs 41 (by decide)).1, h.2.2.2.cg (by rw [e0]) (by rw [e0]) (hs 34 (by decide)).1 (hs 35 (by decide)).1 (hs 39 (by decide)).1⟩
  rw [(hs 31 (by decide)).1]
  exact n6
theorem byt_sar (x : Int64) {k : Nat} (hk : k < 8) : ((x >>> (((Int8.ofInt 8).toInt32 * nI k).toInt64 &&& 63)) &&& 255).toInt32 = nI (byt x k) := by
  have e1 : ((Int8.ofInt 8).toInt32 * nI k).toInt64 &&& 63 = lN (8 * k) := by
    revert k
    decide +kernel
  have e2 : (x >>> lN (8 * k)) &&& 255 = lN (byt x k) := by
    apply Int64.toBitVec_inj.1
    have h1 : ((x >>> lN (8 * k)) &&& 255).toBitVec = x.toBitVec.sshiftRight (8 * k) &&& 255#64 := by
      rw [Int64.toBitVec_and, Int64.toBitVec_shiftRight]
      have h2 : ((lN (8 * k)).toBitVec.smod 64).toNat = 8 * k := by
        rw [wb_tb, wb_sm (8 * k) (by omega), BitVec.toNat_ofNat]
        omega
      rw [BitVec.sshiftRight_eq', h2]
      rfl
    rw [h1, wb_tb]
    apply BitVec.eq_of_getLsbD_eq
    intro i hi
    rw [BitVec.getLsbD_and, BitVec.getLsbD_sshiftRight, BitVec.getLsbD_ofNat, BitVec.getLsbD_ofNat]
    unfold byt
    rw [show (256 : Nat) = 2 ^ 8 from rfl, Nat.testBit_mod_two_pow, Nat.testBit_div_two_pow]
    have h255 : Nat.testBit 255 i = decide (i < 8) := by
      rw [show (255 : Nat) = 2 ^ 8 - 1 from rfl, Nat.testBit_two_pow_sub_one]
    rw [h255]
    by_cases h8 : i < 8
    · rw [decide_eq_true h8, decide_eq_false (by omega : ¬ 64 ≤ i), if_pos (by omega : 8 * k + i < 64)]
      simp [hi, BitVec.getLsbD, Nat.add_comm]
    · rw [decide_eq_false h8]
      simp
  rw [e1, e2, lN_i]
def MT (w : Wd) (ts : List (Nat → Nat)) : Prop := ∀ i t, ts[i]? = some t → ∀ p, p < 12 → w.1 31 0 (12 * i + p) = nI (t p) ∧ w.1 31 0 (60 + 12 * i + p) = nI (iv t p)
theorem MT.cg {w u : Wd} {ts : List (Nat → Nat)} (h : MT w ts) (h1 : u.1 31 = w.1 31) : MT u ts := by
  unfold MT at h ⊢
  rw [h1]
  exact h
theorem QI.mt {w : Wd} {A : AS} (h : QI w A) : MT w A.2.1 := h.1.2.2.2.2.2.1
section
variable {l : Launch} {E : En}
theorem m_taken {w : Wd} {ts : List (Nat → Nat)} {m : Nat → Nat} {i p : Nat} (G : GM l E) (h5 : ts.length ≤ 5) (n6 : MT w ts) (hm : (mvs ts)[i]? = some m) (hp : p < 12) : Ctr l E 1 0 mX5_taken [vR 30, vI (nI i), vI (nI p)] w (fun r u => r = some (vI (nI (m p))) ∧ u = w) noX := by
  refine Ctr.of (tw := []) G.1 G.2 oX5_ok pgX5_taken rfl (by decide) rfl rfl (Nat.le_of_ble_eq_true rfl) ?_
  intro V hV
  have hi : i < 10 := by
    have := (List.getElem?_eq_some_iff.mp hm).1
    rw [mvs_len] at this
    omega
  obtain ⟨d1, d2⟩ := dv2 i hi
  obtain ⟨t, ht, hor⟩ := mvs_get ts i m hm
  have hl := (List.getElem?_eq_some_iff.mp ht).1
  have tail : ∀ b, (b = 0 ∨ b = 60) → w.1 31 0 (b + 12 * (i / 2) + p) = nI (m p) → V 16 [some (vR 30), some (vI (nI i)), some (vI (nI p))] [vI (nI b), vR 31] w 0 := by
    intro b hb hv
    iterate 4 refine hV.go rfl ?_
    refine And.intro (by decide) ?_
    refine topI (V := V) d1 ?_
    refine hV.go rfl ?_
    refine topI (V := V) (nI_mul 12 _) ?_
    refine hV.go rfl ?_
    refine topI (V := V) (nI_add _ _) ?_
    iterate 2 refine hV.go rfl ?_
    refine topI (V := V) (nI_add _ _) ?_
    refine hV.go rfl ?_
    refine Exists.intro (b + 12 * (i / 2) + p) (And.intro rfl (And.intro (show b + 12 * (i / 2) + p < 120 by omega) ?_))
    refine topI (V := V) hv ?_
    refine hV.go rfl ?_
    exact ⟨⟨rfl, rfl⟩, Nat.le_refl _⟩
  iterate 5 refine hV.go rfl ?_
  refine And.intro (by decide) ?_
  refine topI (V := V) d2 ?_
  refine hV.go rfl ?_
  rcases hor with ⟨h0, rfl⟩ | ⟨h1, rfl⟩
  · rw [h0]
    refine And.intro (fun hc => absurd (show nI 0 = 0 by decide) hc) (fun _ => ?_)
    iterate 2 refine hV.go rfl ?_
    exact tail 0 (Or.inl rfl) (by rw [Nat.zero_add]; exact (n6 _ _ ht p hp).1)
  · rw [h1]
    refine And.intro (fun _ => ?_) (fun hc => absurd (show ¬ nI 1 = 0 by decide) hc)
    refine hV.go rfl ?_
    exact tail 60 (Or.inr rfl) (n6 _ _ ht p hp).2
theorem m_move {w : Wd} {A : AS} {x : Int32} {po : Option AV → Wd → Prop} (G : GM l E) (hw : QI w A) (h1 : ∀ i m, (mvs A.2.1)[i]? = some m → x = nI i → ∀ u, QI u (A.1, A.2.1, cmp A.2.2.1 m, A.2.2.2.1, A.2.2.2.2) → u.1 30 0 0 = 0 → Sm mdK w u → po none u) (h2 : (x < 0 ∨ nI (2 * A.2.1.length) ≤ x) → ∀ u, QI u A → u.1 30 0 0 = 1 → Sm mdK w u → po none u) : Ctr l E 2 0 mX5_move [vR 30, vI x] w po noX := by
  refine Ctr.of (tw := []) G.1 G.2 oX5_ok pgX5_move rfl (by decide) rfl rfl (Nat.le_of_ble_eq_true rfl) ?_
  intro V hV
  obtain ⟨n1, n2, n3, n4, n5, n6, n7⟩ := id hw.1
  have bad : (x < 0 ∨ nI (2 * A.2.1.length) ≤ x) → V 15 [some (vR 30), some (vI x), none] [vR 30] w 0 := by
    intro hb
    have hq := hw.th 1
    iterate 8 refine hV.go rfl ?_
    refine topI (V := V) hq.1.2.2.2.1 ?_
    refine hV.go rfl ?_
    refine And.intro (fun hc => ?_) (fun _ => ?_)
    · have hc : nI A.1 ≤ nI 0 := hc
      rw [nI_leI (by omega) (by decide)] at hc
      omega
    iterate 2 refine hV.go rfl ?_
    refine topI (V := V) (show (wI w 30 0 0 1).1 30 0 0 = 1 from wI_eq) ?_
    refine hV.go rfl ?_
    refine And.intro (fun _ => ?_) (fun hc => absurd (show ¬ (1 : Int32) = 0 by decide) hc)
    refine hV.go rfl ?_
    exact ⟨h2 hb _ hq wI_eq (Sm.wI (k := 30) Sm.rf (by decide)), Nat.le_refl _⟩
  iterate 3 refine hV.go rfl ?_
  refine And.intro (fun hc => bad (Or.inl hc)) (fun hc => ?_)
  have hc : ¬ x < 0 := hc
  iterate 4 refine hV.go rfl ?_
  refine topI (V := V) n5 ?_
  refine hV.go rfl ?_
  refine topI (V := V) (nI_mul 2 _) ?_
  refine hV.go rfl ?_
  rcases bnd x (n := 2 * A.2.1.length) (by omega) with ⟨i, hi, rfl⟩ | hb
  · refine And.intro (fun _ => ?_) (fun hc2 => absurd (show nI i < nI (2 * A.2.1.length) from nI_lt hi (by omega)) hc2)
    obtain ⟨m, hm⟩ : ∃ m, (mvs A.2.1)[i]? = some m := ⟨_, List.getElem?_eq_getElem (by rw [mvs_len]; exact hi)⟩
    have hL := mvs_lw n2.2 _ (List.mem_of_getElem? hm)
    have hq := hw.th 0
    have loop : ∀ c j : Nat, j + c = A.1 → ∀ u, Sm [32] (wI w 30 0 0 0) u → (∀ s, s < A.1 → u.1 32 0 s = nI (if s < j then m (A.2.2.1 s) else A.2.2.1 s)) → V 25 [some (vR 30), some (vI (nI i)), some (vI (nI j))] [] u 0 := by
      intro c
      induction c with
      | zero =>
        intro j hj u hs hu
        iterate 3 refine hV.go rfl ?_
        refine topI (V := V) (show u.1 30 0 1 = nI A.1 by rw [(hs 30 (by decide)).1]; exact hq.1.2.2.2.1) ?_
        refine hV.go rfl ?_
        refine And.intro (fun _ => ?_) (fun hc => absurd (show nI A.1 ≤ nI j from nI_le (by omega) (by omega)) hc)
        refine hV.go rfl ?_
        refine ⟨h1 i _ hm rfl u (hq.tbl hs (n3.cmp hL) (fun s hs' => ?_)) (by rw [(hs 30 (by decide)).1]; exact wI_eq) ((Sm.wI (k := 30) Sm.rf (by decide)).tr (hs.mono (by decide))), Nat.le_refl _⟩
        rw [hu s hs']
        by_cases e : s < j
        · rw [if_pos e]
          rfl
        · rw [if_neg e, n3.2 s (by omega)]
          show nI s = nI (m (A.2.2.1 s))
          rw [n3.2 s (by omega), hL.2 s (by omega)]
      | succ c ih =>
        intro j hj u hs hu
        have e0 := (hs 30 (by decide)).1
        have htj : A.2.2.1 j < 12 := n3.1.1 j (by omega)
        iterate 3 refine hV.go rfl ?_
        refine topI (V := V) (show u.1 30 0 1 = nI A.1 by rw [e0]; exact hq.1.2.2.2.1) ?_
        refine hV.go rfl ?_
        refine And.intro (fun hc => ?_) (fun _ => ?_)
        · have hc : nI A.1 ≤ nI j := hc
          rw [nI_leI (by omega) (by omega)] at hc
          omega
        iterate 2 refine hV.go rfl ?_
        refine topI (V := V) (show u.1 30 0 0 = 0 by rw [e0]; exact wI_eq) ?_
        refine hV.go rfl ?_
        refine And.intro (fun hc => absurd rfl (show ¬ (0 : Int32) = 0 from hc)) (fun _ => ?_)
        iterate 9 refine hV.go rfl ?_
        refine Exists.intro j (And.intro rfl (And.intro (show j < 12 by omega) ?_))
        refine topI (V := V) (show u.1 32 0 j = nI (A.2.2.1 j) by rw [hu j (by omega), if_neg (by omega)]) ?_
        refine hV.go rfl ?_
        refine And.intro (callP_v (m_taken G n2.1 (hq.mt.cg (hs 31 (by decide)).1) hm htj) (by decide) (by decide) ?_) trivial
        refine hV.go rfl ?_
        refine Exists.intro j (And.intro rfl (And.intro (show j < 12 by omega) ?_))
        iterate 2 refine hV.go rfl ?_
        have := ih (j + 1) (by omega) (wI u 32 0 j (nI (m (A.2.2.1 j)))) (Sm.wI (k := 32) hs (by decide)) (fun s hs' => by
          by_cases e : s = j
          · rw [e, wI_eq, if_pos (by omega)]
          · rw [wI_ne (by omega), hu s hs']
            by_cases z : s < j
            · rw [if_pos z, if_pos (by omega)]
            · rw [if_neg z, if_neg (by omega)])
        rw [← nI_inc j] at this
        exact this
    iterate 4 refine hV.go rfl ?_
    exact loop A.1 0 (by omega) _ Sm.rf (fun s hs => by rw [if_neg (by omega)]; exact hq.1.2.2.2.2.2.2 s hs)
  · refine And.intro (fun hc2 => ?_) (fun _ => bad hb)
    have hc2 : x < nI (2 * A.2.1.length) := hc2
    rcases hb with hb | hb
    · exact absurd hb hc
    · exact absurd (Int32.lt_of_lt_of_le hc2 hb) Int32.lt_irrefl
theorem m_swap {w : Wd} {A : AS} {x y : Int32} {po : Option AV → Wd → Prop} (G : GM l E) (hw : QI w A) (h1 : ∀ a b, a < A.1 → b < A.1 → x = nI a → y = nI b → ∀ u, QI u (A.1, A.2.1, cmp A.2.2.1 (fun j => if j = b then a else if j = a then b else j), A.2.2.2.1, A.2.2.2.2) → u.1 30 0 0 = 0 → Sm mdK w u → po none u) (h2 : ((x < 0 ∨ nI A.1 ≤ x) ∨ (y < 0 ∨ nI A.1 ≤ y)) → ∀ u, QI u A → u.1 30 0 0 = 1 → Sm mdK w u → po none u) : Ctr l E 2 0 mX5_swap [vR 30, vI x, vI y] w po noX := by
  refine Ctr.of (tw := []) G.1 G.2 oX5_ok pgX5_swap rfl (by decide) rfl rfl (Nat.le_of_ble_eq_true rfl) ?_
  intro V hV
  obtain ⟨n1, n2, n3, n4, n5, n6, n7⟩ := id hw.1
  have bad : ((x < 0 ∨ nI A.1 ≤ x) ∨ (y < 0 ∨ nI A.1 ≤ y)) → V 21 [some (vR 30), some (vI x), some (vI y), none] [vR 30] w 0 := by
    intro hb
    have hq := hw.th 1
    iterate 7 refine hV.go rfl ?_
    refine topI (V := V) hq.1.2.2.2.1 ?_
    refine hV.go rfl ?_
    refine And.intro (fun hc => ?_) (fun _ => ?_)
    · have hc : nI A.1 ≤ nI 0 := hc
      rw [nI_leI (by omega) (by decide)] at hc
      omega
    iterate 2 refine hV.go rfl ?_
    refine topI (V := V) (show (wI w 30 0 0 1).1 30 0 0 = 1 from wI_eq) ?_
    refine hV.go rfl ?_
    refine And.intro (fun _ => ?_) (fun hc => absurd (show ¬ (1 : Int32) = 0 by decide) hc)
    refine hV.go rfl ?_
    exact ⟨h2 hb _ hq wI_eq (Sm.wI (k := 30) Sm.rf (by decide)), Nat.le_refl _⟩
  iterate 4 refine hV.go rfl ?_
  refine And.intro (callP_r (m_isPlace (po := fun v z => z = w ∧ ((v = some (vI 1) ∧ ∃ p, p < A.1 ∧ x = nI p) ∨ (v = some (vI 0) ∧ (x < 0 ∨ nI A.1 ≤ x)))) G n4 n1.2 (fun k hk e => ⟨rfl, Or.inl ⟨rfl, k, hk, e⟩⟩) (fun h => ⟨rfl, Or.inr ⟨rfl, h⟩⟩)) (by decide) (by decide) (fun v z hq => ?_)) trivial
  obtain ⟨rfl, ⟨rfl, a, ha, rfl⟩ | ⟨rfl, hb⟩⟩ := hq
  · refine hV.go rfl ?_
    refine And.intro (fun hc => absurd (show (1 : Int32) = 0 from hc) (by decide)) (fun _ => ?_)
    iterate 3 refine hV.go rfl ?_
    refine And.intro (callP_r (m_isPlace (po := fun v z' => z' = z ∧ ((v = some (vI 1) ∧ ∃ p, p < A.1 ∧ y = nI p) ∨ (v = some (vI 0) ∧ (y < 0 ∨ nI A.1 ≤ y)))) G n4 n1.2 (fun k hk e => ⟨rfl, Or.inl ⟨rfl, k, hk, e⟩⟩) (fun h => ⟨rfl, Or.inr ⟨rfl, h⟩⟩)) (by decide) (by decide) (fun v z' hq => ?_)) trivial
    obtain ⟨rfl, ⟨rfl, b, hb, rfl⟩ | ⟨rfl, hb⟩⟩ := hq
    · refine hV.go rfl ?_
      refine And.intro (fun hc => absurd (show (1 : Int32) = 0 from hc) (by decide)) (fun _ => ?_)
      have hL := ex_lw n1.2 ha hb
      have hq := hw.th 0
      have loop : ∀ c j : Nat, j + c = A.1 → ∀ u, Sm [32] (wI z' 30 0 0 0) u → (∀ s, s < A.1 → u.1 32 0 s = nI (if s < j then (if A.2.2.1 s = a then b else if A.2.2.1 s = b then a else A.2.2.1 s) else A.2.2.1 s)) → V 27 [some (vR 30), some (vI (nI a)), some (vI (nI b)), some (vI (nI j))] [] u 0 := by
        intro c
        induction c with
        | zero =>
          intro j hj u hs hu
          iterate 3 refine hV.go rfl ?_
          refine topI (V := V) (show u.1 30 0 1 = nI A.1 by rw [(hs 30 (by decide)).1]; exact hq.1.2.2.2.1) ?_
          refine hV.go rfl ?_
          refine And.intro (fun _ => ?_) (fun hc => absurd (show nI A.1 ≤ nI j from nI_le (by omega) (by omega)) hc)
          refine hV.go rfl ?_
          refine ⟨h1 a b ha hb rfl rfl u (hq.tbl hs (n3.cmp hL) (fun s hs' => ?_)) (by rw [(hs 30 (by decide)).1]; exact wI_eq) ((Sm.wI (k := 30) Sm.rf (by decide)).tr (hs.mono (by decide))), Nat.le_refl _⟩
          rw [hu s hs']
          show _ = nI (if A.2.2.1 s = b then a else if A.2.2.1 s = a then b else A.2.2.1 s)
          congr 1
          by_cases e : s < j
          · rw [if_pos e]
            by_cases e1 : A.2.2.1 s = a
            · by_cases e2 : A.2.2.1 s = b
              · rw [if_pos e1, if_pos e2]
                omega
              · rw [if_pos e1, if_neg e2, if_pos e1]
            · by_cases e2 : A.2.2.1 s = b
              · rw [if_neg e1, if_pos e2, if_pos e2]
              · rw [if_neg e1, if_neg e2, if_neg e2, if_neg e1]
          · rw [if_neg e, n3.2 s (by omega), if_neg (by omega), if_neg (by omega)]
        | succ c ih =>
          intro j hj u hs hu
          have e0 := (hs 30 (by decide)).1
          have htj : A.2.2.1 j < 12 := n3.1.1 j (by omega)
          have huj : u.1 32 0 j = nI (A.2.2.1 j) := by rw [hu j (by omega), if_neg (by omega)]
          iterate 3 refine hV.go rfl ?_
          refine topI (V := V) (show u.1 30 0 1 = nI A.1 by rw [e0]; exact hq.1.2.2.2.1) ?_
          refine hV.go rfl ?_
          refine And.intro (fun hc => ?_) (fun _ => ?_)
          · have hc : nI A.1 ≤ nI j := hc
            rw [nI_leI (by omega) (by omega)] at hc
            omega
          iterate 2 refine hV.go rfl ?_
          refine topI (V := V) (show u.1 30 0 0 = 0 by rw [e0]; exact wI_eq) ?_
          refine hV.go rfl ?_
          refine And.intro (fun hc => absurd rfl (show ¬ (0 : Int32) = 0 from hc)) (fun _ => ?_)
          have sto : ∀ v, v = (if A.2.2.1 j = a then b else if A.2.2.1 j = b then a else A.2.2.1 j) → V 81 [some (vR 30), some (vI (nI a)), some (vI (nI b)), some (vI (nI j))] [vI (nI v), vI (nI j), vR 32] u 0 := by
            intro v hv
            refine hV.go rfl ?_
            refine Exists.intro j (And.intro rfl (And.intro (show j < 12 by omega) ?_))
            iterate 2 refine hV.go rfl ?_
            have := ih (j + 1) (by omega) (wI u 32 0 j (nI v)) (Sm.wI (k := 32) hs (by decide)) (fun s hs' => by
              by_cases e : s = j
              · rw [e, wI_eq, if_pos (by omega), hv]
              · rw [wI_ne (by omega), hu s hs']
                by_cases z : s < j
                · rw [if_pos z, if_pos (show s < j + 1 by omega)]
                · rw [if_neg z, if_neg (show ¬ s < j + 1 by omega)])
            rw [← nI_inc j] at this
            exact this
          iterate 7 refine hV.go rfl ?_
          refine Exists.intro j (And.intro rfl (And.intro (show j < 12 by omega) ?_))
          refine topI (V := V) huj ?_
          iterate 2 refine hV.go rfl ?_
          refine And.intro (fun hc => ?_) (fun hc => ?_)
          · have hc : ¬ nI (A.2.2.1 j) = nI a := hc
            rw [nI_eq (by omega) (by omega)] at hc
            iterate 4 refine hV.go rfl ?_
            refine Exists.intro j (And.intro rfl (And.intro (show j < 12 by omega) ?_))
            refine topI (V := V) huj ?_
            iterate 2 refine hV.go rfl ?_
            refine And.intro (fun hc2 => ?_) (fun hc2 => ?_)
            · have hc2 : ¬ nI (A.2.2.1 j) = nI b := hc2
              rw [nI_eq (by omega) (by omega)] at hc2
              iterate 4 refine hV.go rfl ?_
              refine Exists.intro j (And.intro rfl (And.intro (show j < 12 by omega) ?_))
              refine topI (V := V) huj ?_
              exact sto _ (by rw [if_neg hc, if_neg hc2])
            · have hc2 : nI (A.2.2.1 j) = nI b := Classical.not_not.mp hc2
              rw [nI_eq (by omega) (by omega)] at hc2
              iterate 2 refine hV.go rfl ?_
              exact sto _ (by rw [if_neg hc, if_pos hc2])
          · have hc : nI (A.2.2.1 j) = nI a := Classical.not_not.mp hc
            rw [nI_eq (by omega) (by omega)] at hc
            iterate 2 refine hV.go rfl ?_
            exact sto _ (by rw [if_pos hc])
      iterate 5 refine hV.go rfl ?_
      exact loop A.1 0 (by omega) _ Sm.rf (fun s hs => by rw [if_neg (by omega)]; exact hq.1.2.2.2.2.2.2 s hs)
    · refine hV.go rfl ?_
      refine And.intro (fun _ => bad (Or.inr hb)) (fun hc => absurd rfl hc)
  · refine hV.go rfl ?_
    refine And.intro (fun _ => bad (Or.inl hb)) (fun hc => absurd rfl hc)
theorem m_reset {w : Wd} {A : AS} {po : Option AV → Wd → Prop} (G : GM l E) (hw : QI w A) (h1 : ∀ u, QI u (A.1, A.2.1, idp, A.2.2.2.1, A.2.2.2.2) → Sm mdK w u → po none u) : Ctr l E 1 0 mX5_reset [vR 30] w po noX := by
  refine Ctr.of (tw := []) G.1 G.2 oX5_ok pgX5_reset rfl (by decide) rfl rfl (Nat.le_of_ble_eq_true rfl) ?_
  intro V hV
  have hq := hw.th 0
  have n12 := hw.1.1.2
  have loop : ∀ c i : Nat, i + c = 12 → ∀ u, Sm [32] (wI w 30 0 0 0) u → (∀ p, p < i → u.1 32 0 p = nI p) → V 7 [some (vR 30), some (vI (nI i))] [] u 0 := by
    intro c
    induction c with
    | zero =>
      intro i hi u hs ht
      iterate 3 refine hV.go rfl ?_
      refine And.intro (fun _ => ?_) (fun hc => absurd (show nI 12 ≤ nI i from nI_le (by omega) (by omega)) hc)
      repeat refine hV.go rfl ?_
      exact ⟨h1 u (hq.tbl hs (Lw.id _) (fun s hs' => ht s (by omega))) ((Sm.wI (k := 30) Sm.rf (by decide)).tr (hs.mono (by decide))), Nat.le_refl _⟩
    | succ c ih =>
      intro i hi u hs ht
      iterate 3 refine hV.go rfl ?_
      refine And.intro (fun hc => ?_) (fun _ => ?_)
      · have hc : nI 12 ≤ nI i := hc
        rw [nI_leI (by omega) (by omega)] at hc
        omega
      iterate 5 refine hV.go rfl ?_
      refine Exists.intro i (And.intro rfl (And.intro (show i < 12 by omega) ?_))
      iterate 2 refine hV.go rfl ?_
      have := ih (i + 1) (by omega) (wI u 32 0 i (nI i)) (Sm.wI (k := 32) hs (by decide)) (fun p hp => by
        by_cases ep : p = i
        · rw [ep, wI_eq]
        · rw [wI_ne (by omega)]
          exact ht p (by omega))
      rw [← nI_inc i] at this
      exact this
  iterate 5 refine hV.go rfl ?_
  exact loop 12 0 rfl _ Sm.rf (fun p hp => by omega)
theorem m_place {w : Wd} {A : AS} {x : Int32} {po : Option AV → Wd → Prop} (G : GM l E) (hw : QI w A) (h1 : ∀ a, a < A.1 → x = nI a → ∀ u, QI u A → u.1 30 0 0 = 0 → Sm mdK w u → po (some (vI (nI (A.2.2.1 a)))) u) (h2 : (x < 0 ∨ nI A.1 ≤ x) → ∀ u, QI u A → u.1 30 0 0 = 1 → Sm mdK w u → po (some (vI 0)) u) : Ctr l E 2 0 mX5_place [vR 30, vI x] w po noX := by
  refine Ctr.of (tw := []) G.1 G.2 oX5_ok pgX5_place rfl (by decide) rfl rfl (Nat.le_of_ble_eq_true rfl) ?_
  intro V hV
  obtain ⟨n1, n2, n3, n4, n5, n6, n7⟩ := id hw.1
  iterate 4 refine hV.go rfl ?_
  refine And.intro (callP_r (m_isPlace (po := fun v z => z = w ∧ ((v = some (vI 1) ∧ ∃ p, p < A.1 ∧ x = nI p) ∨ (v = some (vI 0) ∧ (x < 0 ∨ nI A.1 ≤ x)))) G n4 n1.2 (fun k hk e => ⟨rfl, Or.inl ⟨rfl, k, hk, e⟩⟩) (fun h => ⟨rfl, Or.inr ⟨rfl, h⟩⟩)) (by decide) (by decide) (fun v z hq => ?_)) trivial
  obtain ⟨rfl, ⟨rfl, a, ha, rfl⟩ | ⟨rfl, hb⟩⟩ := hq
  · refine hV.go rfl ?_
    refine And.intro (fun hc => absurd (show (1 : Int32) = 0 from hc) (by decide)) (fun _ => ?_)
    iterate 5 refine hV.go rfl ?_
    refine topI (V := V) (show (wI z 30 0 0 0).1 30 0 0 = 0 from wI_eq) ?_
    refine hV.go rfl ?_
    refine And.intro (fun _ => ?_) (fun hc => absurd (show (0 : Int32) ≤ 0 by decide) hc)
    iterate 4 refine hV.go rfl ?_
    refine Exists.intro a (And.intro rfl (And.intro (show a < 12 by omega) ?_))
    refine topI (V := V) ((hw.th 0).1.2.2.2.2.2.2 a (by omega)) ?_
    refine hV.go rfl ?_
    exact ⟨h1 a ha rfl _ (hw.th _) wI_eq (Sm.wI (k := 30) Sm.rf (by decide)), Nat.le_refl _⟩
  · refine hV.go rfl ?_
    refine And.intro (fun _ => ?_) (fun hc => absurd rfl hc)
    iterate 4 refine hV.go rfl ?_
    refine topI (V := V) (show (wI z 30 0 0 1).1 30 0 0 = 1 from wI_eq) ?_
    refine hV.go rfl ?_
    refine And.intro (fun hc => absurd (show (1 : Int32) ≤ 0 from hc) (by decide)) (fun _ => ?_)
    repeat refine hV.go rfl ?_
    exact ⟨h2 hb _ (hw.th _) wI_eq (Sm.wI (k := 30) Sm.rf (by decide)), Nat.le_refl _⟩
theorem m_solution {w : Wd} {A : AS} {x : Int32} {po : Option AV → Wd → Prop} (G : GM l E) (hw : QI w A) (h1 : ∀ i m, A.2.2.2.2[i]? = some m → x = nI i → ∀ u, QI u A → Sm mdK w u → po (some (vI (nI m))) u) (h2 : (x < 0 ∨ nI A.2.2.2.2.length ≤ x) → ∀ u, QI u A → Sm mdK w u → po (some (vI (-1))) u) : Ctr l E 1 0 mX5_solution [vR 30, vI x] w po noX := by
  refine Ctr.of (tw := []) G.1 G.2 oX5_ok pgX5_solution rfl (by decide) rfl rfl (Nat.le_of_ble_eq_true rfl) ?_
  intro V hV
  obtain ⟨s1, s2, s3⟩ := (hw.th 0).2.2.1
  have sm : Sm mdK w (wI w 30 0 0 0) := Sm.wI (k := 30) Sm.rf (by decide)
  iterate 5 refine hV.go rfl ?_
  refine And.intro (fun hc => ?_) (fun hc => ?_)
  · repeat refine hV.go rfl ?_
    exact ⟨h2 (Or.inl hc) _ (hw.th _) sm, Nat.le_refl _⟩
  · have hc : ¬ x < 0 := hc
    iterate 3 refine hV.go rfl ?_
    refine topI (V := V) s2 ?_
    refine hV.go rfl ?_
    rcases bnd x (n := A.2.2.2.2.length) (by omega) with ⟨i, hi, rfl⟩ | hb
    · refine And.intro (fun _ => ?_) (fun hc2 => absurd (show nI i < nI A.2.2.2.2.length from nI_lt hi (by omega)) hc2)
      have hm : A.2.2.2.2[i]? = some A.2.2.2.2[i] := List.getElem?_eq_getElem hi
      iterate 4 refine hV.go rfl ?_
      refine Exists.intro i (And.intro rfl (And.intro (show i < 1500 by omega) ?_))
      refine topI (V := V) (s3 i _ hm) ?_
      refine hV.go rfl ?_
      exact ⟨h1 i _ hm rfl _ (hw.th _) sm, Nat.le_refl _⟩
    · refine And.intro (fun hc2 => ?_) (fun _ => ?_)
      · have hc2 : x < nI A.2.2.2.2.length := hc2
        rcases hb with hb | hb
        · exact absurd hb hc
        · exact absurd (Int32.lt_of_lt_of_le hc2 hb) Int32.lt_irrefl
      · repeat refine hV.go rfl ?_
        exact ⟨h2 hb _ (hw.th _) sm, Nat.le_refl _⟩
theorem chI_in {tx : List Nat} {i : Nat} (hi : i < tx.length) (h48 : tx.length ≤ 48) : chI tx (nI i) = nI tx[i] := by
  unfold chI
  rw [if_pos ⟨nI_pos (by omega), nI_lt hi (by omega)⟩, nI_clamp (by omega), List.getD_eq_getElem?_getD, List.getElem?_eq_getElem hi]
  rfl
theorem chI_out {tx : List Nat} {x : Int32} (h : x < 0 ∨ nI tx.length ≤ x) : chI tx x = 0 := by
  unfold chI
  rw [if_neg]
  rintro ⟨a, b⟩
  rcases h with h | h
  · exact a h
  · exact absurd (Int32.lt_of_lt_of_le b h) Int32.lt_irrefl
theorem m_character {w : Wd} {A : AS} {x : Int32} {po : Option AV → Wd → Prop} (G : GM l E) (hw : QI w A) (hpo : ∀ u, QI u A → Sm mdK w u → po (some (vI (chI A.2.2.2.1 x))) u) : Ctr l E 1 0 mX5_character [vR 30, vI x] w po noX := by
  refine Ctr.of (tw := []) G.1 G.2 oX5_ok pgX5_character rfl (by decide) rfl rfl (Nat.le_of_ble_eq_true rfl) ?_
  intro V hV
  obtain ⟨s1, s2, s3⟩ := (hw.th 0).2.1
  have sm : Sm mdK w (wI w 30 0 0 0) := Sm.wI (k := 30) Sm.rf (by decide)
  have fin := hpo _ (hw.th 0) sm
  iterate 5 refine hV.go rfl ?_
  refine And.intro (fun hc => ?_) (fun hc => ?_)
  · repeat refine hV.go rfl ?_
    rw [chI_out (Or.inl hc)] at fin
    exact ⟨fin, Nat.le_refl _⟩
  · have hc : ¬ x < 0 := hc
    iterate 3 refine hV.go rfl ?_
    refine topI (V := V) s1 ?_
    refine hV.go rfl ?_
    rcases bnd x (n := A.2.2.2.1.length) (by omega) with ⟨i, hi, rfl⟩ | hb
    · refine And.intro (fun _ => ?_) (fun hc2 => absurd (show nI i < nI A.2.2.2.1.length from nI_lt hi (by omega)) hc2)
      have hm : A.2.2.2.1[i]? = some A.2.2.2.1[i] := List.getElem?_eq_getElem hi
      iterate 4 refine hV.go rfl ?_
      refine Exists.intro i (And.intro rfl (And.intro (show i < 60 by omega) ?_))
      refine topI (V := V) (s3 i _ hm).1 ?_
      refine hV.go rfl ?_
      rw [chI_in hi s2] at fin
      exact ⟨fin, Nat.le_refl _⟩
    · refine And.intro (fun hc2 => ?_) (fun _ => ?_)
      · have hc2 : x < nI A.2.2.2.1.length := hc2
        rcases hb with hb | hb
        · exact absurd hb hc
        · exact absurd (Int32.lt_of_lt_of_le hc2 hb) Int32.lt_irrefl
      · repeat refine hV.go rfl ?_
        rw [chI_out hb] at fin
        exact ⟨fin, Nat.le_refl _⟩
end
