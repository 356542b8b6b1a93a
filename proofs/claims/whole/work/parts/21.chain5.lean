/-- the rank, as the class counts it -/
def rkL (s : CS) (f : Nat → Nat) : Nat → Nat → Nat → (Nat → Nat) → (Nat → Nat) → Nat
  | 0, _, acc, _, _ => acc
  | n + 1, k, acc, ld, rs => rkL s f n (k + 1) (acc * (cO s k).length + cls (cO s k) ld (f k)) (cmp (cT s k (rs k)) ld) (cmp rs (iv (cT s k (rs k))))
/-- the choice of a place, as the class makes it -/
def pick (A : List Nat) (og : Nat → Nat) (each : Nat) : Nat → Nat → Nat → Nat → Nat × Nat
  | 0, _, lf, ch => (ch, lf)
  | n + 1, pl, lf, _ => if og pl ∈ A then (if lf < each then (og pl, lf) else pick A og each n (pl + 1) (lf - each) (og pl)) else pick A og each n (pl + 1) lf (og pl)
def rwL (s : CS) : Nat → Nat → Nat → (Nat → Nat) → (Nat → Nat)
  | 0, _, _, ld => ld
  | n + 1, k, lf, ld => rwL s n (k + 1) (pick (cO s k) (iv ld) (cfr s n (k + 1)) 12 0 lf k).2 (cmp (cT s k (pick (cO s k) (iv ld) (cfr s n (k + 1)) 12 0 lf k).1) ld)
/-- every choice finds a place -/
def rwOK (s : CS) : Nat → Nat → Nat → (Nat → Nat) → Prop
  | 0, _, _, _ => True
  | n + 1, k, lf, ld => (pick (cO s k) (iv ld) (cfr s n (k + 1)) 12 0 lf k).1 ∈ cO s k ∧ rwOK s n (k + 1) (pick (cO s k) (iv ld) (cfr s n (k + 1)) 12 0 lf k).2 (cmp (cT s k (pick (cO s k) (iv ld) (cfr s n (k + 1)) 12 0 lf k).1) ld)
theorem pick_le (A : List Nat) (og : Nat → Nat) (each : Nat) : ∀ n pl lf ch, (pick A og each n pl lf ch).2 ≤ lf
  | 0, _, _, _ => Nat.le_refl _
  | n + 1, pl, lf, ch => by
    unfold pick
    split
    · split
      · exact Nat.le_refl _
      · exact Nat.le_trans (pick_le A og each n _ _ _) (Nat.sub_le _ _)
    · exact pick_le A og each n _ _ _
theorem pick_lt {A : List Nat} {og : Nat → Nat} {each : Nat} (ho : ∀ i, i < 12 → og i < 12) : ∀ n pl lf ch, pl + n ≤ 12 → ch < 12 → (pick A og each n pl lf ch).1 < 12
  | 0, _, _, _, _, h => h
  | n + 1, pl, lf, ch, hp, h => by
    have h1 := ho pl (by omega)
    unfold pick
    split
    · split
      · exact h1
      · exact pick_lt ho n _ _ _ (by omega) h1
    · exact pick_lt ho n _ _ _ (by omega) h1
theorem cfr_le {w : Wd} {s : CS} (hw : ChW w s) : ∀ n k, k + n ≤ 12 → cfr s n k ≤ 12 ^ n
  | 0, _, _ => Nat.le_refl _
  | n + 1, k, h => by
    have ih := cfr_le hw n (k + 1) (by omega)
    have h1 := (hw k (by omega)).1
    show (cO s k).length * cfr s n (k + 1) ≤ 12 ^ (n + 1)
    rw [Nat.pow_succ, Nat.mul_comm (12 ^ n)]
    exact Nat.mul_le_mul h1 ih
theorem cfr_63 {w : Wd} {s : CS} (hw : ChW w s) {n k : Nat} (h : k + n ≤ 12) : cfr s n k < 2 ^ 62 := by
  have h1 := cfr_le hw n k h
  have h2 : (12 : Nat) ^ n ≤ 12 ^ 12 := Nat.pow_le_pow_right (by decide) (by omega)
  have h3 : (12 : Nat) ^ 12 < 2 ^ 62 := by decide
  omega
section
variable {l : Launch} {E : En}
theorem c_rankOf {w : Wd} {s : CS} {f : Nat → Nat} (G : GC l E) (hw : ChW w s) (hcw : CW s) (hf : Pm f) (hh : hs s 12 0 f = true) : Ctr l E 3 0 mX1_rankOf [vR 2, vJ (rw f)] w (fun r u => r = some (vJ (lN (rkL s f 12 0 0 idp f))) ∧ u = w) noX := by
  refine Ctr.of (tw := []) G.1 G.2 oX1_ok pgX1_rankOf rfl (by decide) rfl rfl (Nat.le_of_ble_eq_true rfl) ?_
  intro V hV
  have loop : ∀ n k : Nat, k + n = 12 → ∀ (a : Nat) (ld rs : Nat → Nat), Pm ld → Pm rs → hs s n k rs = true → rkL s f n k a ld rs = rkL s f 12 0 0 idp f → ∀ x10 : Option AV, V 13 [some (vR 2), some (vJ (rw f)), none, some (vJ (lN a)), none, some (vJ (rw ld)), none, some (vJ (rw rs)), none, some (vI (nI k)), x10] [] w 0 := by
    intro n
    induction n with
    | zero =>
      intro k hk a ld rs hld hrs h1 h2 x10
      have : k = 12 := by omega
      subst this
      repeat refine hV.go rfl ?_
      refine And.intro (fun hc => ?_) (fun hc => ?_)
      · repeat refine hV.go rfl ?_
        refine ⟨⟨?_, rfl⟩, Nat.le_refl _⟩
        rw [← h2]
        rfl
      · exact absurd (show nI 12 ≤ nI 12 from nI_le (Nat.le_refl _) (by omega)) hc
    | succ n ih =>
      intro k hk a ld rs hld hrs h1 h2 x10
      have hk : k < 12 := by omega
      have hrk := hrs.1 k hk
      have hin : rs k ∈ cO s k := by
        simp only [hs, Bool.and_eq_true, decide_eq_true_eq] at h1
        exact h1.1
      have h1' : hs s n (k + 1) (cmp rs (iv (cT s k (rs k)))) = true := by
        simp only [hs, Bool.and_eq_true, decide_eq_true_eq] at h1
        exact h1.2
      have hT := (hcw k hk).2.2.2.1 _ hin
      obtain ⟨g1, -, g3, -, -, -, g7⟩ := hw k hk
      have g8 := (g7 _ hrk).1 hin
      have hcl : cls (cO s k) ld (f k) ≤ 12 := Nat.le_trans (List.countP_le_length) g1
      repeat refine hV.go rfl ?_
      refine And.intro (fun hc => ?_) (fun hc => ?_)
      · have hc : nI 12 ≤ nI k := hc
        rw [nI_leI (by omega) (by omega)] at hc
        omega
      · repeat refine hV.go rfl ?_
        refine Exists.intro k (And.intro rfl (And.intro hk ?_))
        refine topI (V := V) g3 ?_
        refine hV.go rfl ?_
        refine topJ (V := V) (nI_l (by omega)) ?_
        refine hV.go rfl ?_
        refine topJ (V := V) (lN_mul _ _) ?_
        repeat refine hV.go rfl ?_
        refine And.intro (callP_v (c_at G hf.lt16 hk w) (by decide) (by decide) ?_) trivial
        refine hV.go rfl ?_
        refine And.intro (callP_v (c_countLesser G hw hcw hk hld (hf.1 k hk)) (by decide) (by decide) ?_) trivial
        refine hV.go rfl ?_
        refine topJ (V := V) (nI_l (by omega)) ?_
        refine hV.go rfl ?_
        refine topJ (V := V) (lN_add _ _) ?_
        repeat refine hV.go rfl ?_
        refine And.intro (callP_v (c_at G hrs.lt16 hk w) (by decide) (by decide) ?_) trivial
        repeat refine hV.go rfl ?_
        refine Exists.intro k (And.intro rfl (And.intro hk ?_))
        repeat refine hV.go rfl ?_
        refine And.intro hk (Exists.intro (rs k) (And.intro rfl (And.intro hrk ?_)))
        refine topJ (V := V) g8.1 ?_
        repeat refine hV.go rfl ?_
        refine And.intro (callP_v (c_then G hT.2.1.1 hld.lt16 w) (by decide) (by decide) ?_) trivial
        repeat refine hV.go rfl ?_
        refine Exists.intro k (And.intro rfl (And.intro hk ?_))
        repeat refine hV.go rfl ?_
        refine And.intro hk (Exists.intro (rs k) (And.intro rfl (And.intro hrk ?_)))
        refine topJ (V := V) g8.2 ?_
        refine hV.go rfl ?_
        refine And.intro (callP_v (c_then G hrs.1 hT.2.1.iv.lt16 w) (by decide) (by decide) ?_) trivial
        iterate 3 refine hV.go rfl ?_
        have := ih (k + 1) (by omega) (a * (cO s k).length + cls (cO s k) ld (f k)) (cmp (cT s k (rs k)) ld) (cmp rs (iv (cT s k (rs k)))) (hT.2.1.cmp hld) (hrs.cmp hT.2.1.iv) h1' h2 (some (vI (nI (rs k))))
        rw [← nI_inc] at this
        exact this
  refine hV.go rfl ?_
  refine hV.go rfl ?_
  refine hV.go rfl ?_
  refine topJ (V := V) rw_id ?_
  iterate 5 refine hV.go rfl ?_
  exact loop 12 0 (by omega) 0 idp f Pm.id hf hh rfl none
theorem c_rowOf {w : Wd} {s : CS} {r : Nat} (G : GC l E) (hw : ChW w s) (hcw : CW s) (hr : r < 2 ^ 62) (hok : rwOK s 12 0 r idp) : Ctr l E 3 0 mX1_rowOf [vR 2, vJ (lN r)] w (fun v u => v = some (vJ (rw (rwL s 12 0 r idp))) ∧ u = w) noX := by
  refine Ctr.of (tw := []) G.1 G.2 oX1_ok pgX1_rowOf rfl (by decide) rfl rfl (Nat.le_of_ble_eq_true rfl) ?_
  intro V hV
  have loop : ∀ n k : Nat, k + n = 12 → ∀ (lf : Nat) (ld : Nat → Nat), lf < 2 ^ 62 → Pm ld → rwOK s n k lf ld → rwL s n k lf ld = rwL s 12 0 r idp → ∀ x8 x9 x10 x11 x12 x13 : Option AV, V 10 [some (vR 2), some (vJ (lN r)), none, some (vJ (lN lf)), none, some (vJ (rw ld)), none, some (vI (nI k)), x8, x9, x10, x11, x12, x13] [] w 0 := by
    intro n
    induction n with
    | zero =>
      intro k hk lf ld hlf hld h1 h2 x8 x9 x10 x11 x12 x13
      have : k = 12 := by omega
      subst this
      repeat refine hV.go rfl ?_
      refine And.intro (fun hc => ?_) (fun hc => ?_)
      · repeat refine hV.go rfl ?_
        refine ⟨⟨?_, rfl⟩, Nat.le_refl _⟩
        rw [← h2]
        rfl
      · exact absurd (show nI 12 ≤ nI 12 from nI_le (Nat.le_refl _) (by omega)) hc
    | succ n ih =>
      intro k hk lf ld hlf hld h1 h2 x8 x9 x10 x11 x12 x13
      have hk12 : k < 12 := by omega
      have hkn : 12 - (k + 1) = n := by omega
      have heach := cfr_63 hw (n := n) (k := k + 1) (by omega)
      have hiv := hld.iv
      obtain ⟨g1, -, -, -, -, -, g7⟩ := hw k hk12
      have tail : ∀ (ch lf' : Nat) (y13 : Option AV), (ch, lf') = pick (cO s k) (iv ld) (cfr s n (k + 1)) 12 0 lf k → V 89 [some (vR 2), some (vJ (lN r)), none, some (vJ (lN lf')), none, some (vJ (rw ld)), none, some (vI (nI k)), some (vJ (lN (cfr s n (k + 1)))), none, some (vJ (rw (iv ld))), none, some (vI (nI ch)), y13] [] w 0 := by
        intro ch lf' y13 hp
        have hin : ch ∈ cO s k := by
          have := h1.1
          rw [← hp] at this
          exact this
        have hT := (hcw k hk12).2.2.2.1 _ hin
        have g8 := (g7 ch hT.1).1 hin
        have hle : lf' ≤ lf := by
          have := pick_le (cO s k) (iv ld) (cfr s n (k + 1)) 12 0 lf k
          rw [← hp] at this
          exact this
        repeat refine hV.go rfl ?_
        refine Exists.intro k (And.intro rfl (And.intro hk12 ?_))
        repeat refine hV.go rfl ?_
        refine And.intro hk12 (Exists.intro ch (And.intro rfl (And.intro hT.1 ?_)))
        refine topJ (V := V) g8.1 ?_
        repeat refine hV.go rfl ?_
        refine And.intro (callP_v (c_then G hT.2.1.1 hld.lt16 w) (by decide) (by decide) ?_) trivial
        iterate 3 refine hV.go rfl ?_
        have := ih (k + 1) (by omega) lf' (cmp (cT s k ch) ld) (by omega) (hT.2.1.cmp hld) (by
          have := h1.2
          rw [← hp] at this
          exact this) (by
          rw [← h2]
          show _ = rwL s n (k + 1) (pick (cO s k) (iv ld) (cfr s n (k + 1)) 12 0 lf k).2 (cmp (cT s k (pick (cO s k) (iv ld) (cfr s n (k + 1)) 12 0 lf k).1) ld)
          rw [← hp])
        rw [← nI_inc] at this
        exact this _ _ _ _ _ _
      have inner : ∀ m pl : Nat, pl + m = 12 → ∀ lf' ch : Nat, lf' ≤ lf → pick (cO s k) (iv ld) (cfr s n (k + 1)) m pl lf' ch = pick (cO s k) (iv ld) (cfr s n (k + 1)) 12 0 lf k → V 41 [some (vR 2), some (vJ (lN r)), none, some (vJ (lN lf')), none, some (vJ (rw ld)), none, some (vI (nI k)), some (vJ (lN (cfr s n (k + 1)))), none, some (vJ (rw (iv ld))), none, some (vI (nI ch)), some (vI (nI pl))] [] w 0 := by
        intro m
        induction m with
        | zero =>
          intro pl hpl lf' ch hle he
          have : pl = 12 := by omega
          subst this
          repeat refine hV.go rfl ?_
          refine And.intro (fun hc => ?_) (fun hc => ?_)
          · exact tail ch lf' _ he
          · exact absurd (show nI 12 ≤ nI 12 from nI_le (Nat.le_refl _) (by omega)) hc
        | succ m ihm =>
          intro pl hpl lf' ch hle he
          have hp12 : pl < 12 := by omega
          have ho := hiv.1 pl hp12
          repeat refine hV.go rfl ?_
          refine And.intro (fun hc => ?_) (fun hc => ?_)
          · have hc : nI 12 ≤ nI pl := hc
            rw [nI_leI (by omega) (by omega)] at hc
            omega
          · repeat refine hV.go rfl ?_
            refine And.intro (callP_v (c_at G hiv.lt16 hp12 w) (by decide) (by decide) ?_) trivial
            repeat refine hV.go rfl ?_
            refine And.intro (callP_v (c_takes G hw hcw hk12 ho) (by decide) (by decide) ?_) trivial
            refine hV.go rfl ?_
            unfold pick at he
            refine And.intro (fun hc => ?_) (fun hc => ?_)
            · have hn : iv ld pl ∉ cO s k := of_decide_eq_false (b2i_eq.mp hc)
              rw [if_neg hn] at he
              iterate 2 refine hV.go rfl ?_
              have := ihm (pl + 1) (by omega) lf' (iv ld pl) hle he
              rw [← nI_inc] at this
              exact this
            · have hn : iv ld pl ∈ cO s k := of_decide_eq_true (b2i_ne.mp hc)
              rw [if_pos hn] at he
              repeat refine hV.go rfl ?_
              refine And.intro (fun hc => ?_) (fun hc => ?_)
              · have hc : lN (cfr s n (k + 1)) ≤ lN lf' := (lg_cmp_ge _ _).mp hc
                rw [pk_lLE (by omega) (by omega)] at hc
                rw [if_neg (by omega)] at he
                iterate 3 refine hV.go rfl ?_
                refine topJ (V := V) (lN_sub hc) ?_
                iterate 3 refine hV.go rfl ?_
                have := ihm (pl + 1) (by omega) (lf' - cfr s n (k + 1)) (iv ld pl) (by omega) he
                rw [← nI_inc] at this
                exact this
              · have hc : ¬ lN (cfr s n (k + 1)) ≤ lN lf' := fun z => hc ((lg_cmp_ge _ _).mpr z)
                rw [pk_lLE (by omega) (by omega)] at hc
                rw [if_pos (by omega)] at he
                refine hV.go rfl ?_
                exact tail (iv ld pl) lf' _ he
      repeat refine hV.go rfl ?_
      refine And.intro (fun hc => ?_) (fun hc => ?_)
      · have hc : nI 12 ≤ nI k := hc
        rw [nI_leI (by omega) (by omega)] at hc
        omega
      · iterate 4 refine hV.go rfl ?_
        refine topI (V := V) (nI_1 k) ?_
        refine hV.go rfl ?_
        have hcf := c_countFrom (k0 := k + 1) G hw (by omega)
        rw [hkn] at hcf
        refine And.intro (callP_v hcf (by decide) (by decide) ?_) trivial
        repeat refine hV.go rfl ?_
        refine And.intro (callP_v (c_back G hld w) (by decide) (by decide) ?_) trivial
        iterate 5 refine hV.go rfl ?_
        exact inner 12 0 (by omega) lf k (Nat.le_refl _) rfl
  iterate 3 refine hV.go rfl ?_
  refine topJ (V := V) rw_id ?_
  iterate 3 refine hV.go rfl ?_
  exact loop 12 0 (by omega) r idp hr Pm.id hok rfl _ _ _ _ _ _
end
