/-! the reference finds the arrangement of a rank -/
theorem cls_uq {s : CS} {P : (Nat → Nat) → Prop} (h : CP s P) {k a b : Nat} {ld : Nat → Nat} (hk : k < 12) (hl : Pm ld) (ha : a ∈ cO s k) (hb : b ∈ cO s k) (e : cls (cO s k) ld (ld a) = cls (cO s k) ld (ld b)) : a = b := by
  rcases Nat.lt_trichotomy (ld a) (ld b) with z | z | z
  · have := cls_lt (A := cO s k) (g := ld) (x := ld a) (y := ld b) ha (Nat.le_refl _) z
    omega
  · exact hl.inj z
  · have := cls_lt (A := cO s k) (g := ld) (x := ld b) (y := ld a) hb (Nat.le_refl _) z
    omega
section
variable {l : Launch} {E : En}
theorem m_find {w : Wd} {A : AS} {s : CS} {f : Nat → Nat} {po : Option AV → Wd → Prop} (G : GM l E) (hr : RC w A s) (hf : Gen A.2.1 f) (hpo : ∀ u, Rw u 43 0 f → Sm [42, 43] w u → po none u) : Ctr l E 3 0 mX5_find [vR 30, vJ (lN (rN A.2.1 f))] w po noX := by
  refine Ctr.of (tw := []) G.1 G.2 oX5_ok pgX5_find rfl (by decide) rfl rfl (Nat.le_of_ble_eq_true rfl) ?_
  intro V hV
  have n1 := hr.1.1.1
  have n4 : ∀ z, Sm [42, 43] w z → z.1 30 0 1 = nI A.1 := fun z hz => by rw [(hz 30 (by decide)).1]; exact hr.1.1.2.2.2.1
  have hwk : ∀ z, Sm [42, 43] w z → RC z A s := fun z hz => hr.wk (hz.mono (by decide))
  have hcp := hr.2.2.2
  have hgr := hr.gr
  have hcw := hcp.1
  have hfl := hr.lw hf
  generalize hR : rN A.2.1 f = R
  have main : ∀ c k : Nat, k + c = A.1 → ∀ (z : Wd) (ld : Nat → Nat) (x6 x7 x8 x9 x10 x11 : Option AV), Sm [42, 43] w z → Rw z 43 0 ld → Gen A.2.1 ld → (∀ j, j < k → f j = ld j) → V 30 [some (vR 30), some (vJ (lN R)), none, some (vJ (lN (rnk (Gen A.2.1) f (12 - k) k))), none, some (vI (nI k)), x6, x7, x8, x9, x10, x11] [] z 0 := by
    intro c
    induction c with
    | zero =>
      intro k hk z ld x6 x7 x8 x9 x10 x11 hs h43 hld hag
      iterate 3 refine hV.go rfl ?_
      refine topI (V := V) (n4 z hs) ?_
      refine hV.go rfl ?_
      refine And.intro (fun _ => ?_) (fun hc => absurd (show nI A.1 ≤ nI k from nI_le (by omega) (by omega)) hc)
      repeat refine hV.go rfl ?_
      have e : f = ld := by
        funext i
        by_cases hi : i < A.1
        · exact hag i (by omega)
        · rw [hfl.2 i (by omega), (hr.lw hld).2 i (by omega)]
      rw [← e] at h43
      exact ⟨hpo z h43 hs, Nat.le_refl _⟩
    | succ c ih =>
      intro k hk z ld x6 x7 x8 x9 x10 x11 hs h43 hld hag
      have hkn : k < A.1 := by omega
      have hldp := (hr.lw hld).1
      have hcz := (hwk z hs).2.2.1
      have hls := hcp.z_lsr hgr (show k < 12 by omega) hf hld hag
      have hlt := hcp.rnk_lt f (12 - (k + 1)) (k + 1) (by omega)
      have hlo := hcp.ord_lt (i := k + 1) (by omega)
      have hlo0 := hcp.ord_lt (i := k) (by omega)
      have hrt := hcp.rnk_lt f (12 - k) k (by omega)
      have hpos := hcp.ord_pos (i := k + 1) (by omega)
      have hst := rnk_st (P := Gen A.2.1) (f := f) (show k < 12 by omega)
      have hll : lsr (Gen A.2.1) f k ≤ 12 := by
        have := List.countP_le_length (p := fun p => decide (f p < f k) && cd (Orb (Gen A.2.1) k p)) (l := List.range 12)
        rwa [List.length_range] at this
      have hdiv : rnk (Gen A.2.1) f (12 - k) k / ord (Gen A.2.1) (12 - (k + 1)) (k + 1) = lsr (Gen A.2.1) f k := by
        rw [hst, Nat.mul_comm, Nat.mul_add_div hpos, Nat.div_eq_of_lt hlt, Nat.add_zero]
      have hmod : rnk (Gen A.2.1) f (12 - k) k % ord (Gen A.2.1) (12 - (k + 1)) (k + 1) = rnk (Gen A.2.1) f (12 - (k + 1)) (k + 1) := by
        rw [hst, Nat.mul_comm, Nat.mul_add_mod, Nat.mod_eq_of_lt hlt]
      have hp0 : iv ld (f k) ∈ cO s k := (hcp.orb (by omega)).mpr ⟨cmp f (iv ld), hgr.2.1 _ _ hf (hgr.2.2.1 _ hld), ⟨hfl.1.cmp hldp.iv, fun i hi => by
        show iv ld (f i) = i
        rw [hag i hi]
        exact hldp.iv_l i⟩, rfl⟩
      have hv0 : ld (iv ld (f k)) = f k := hldp.iv_r _
      have hp0n := hr.lo hkn hp0
      iterate 3 refine hV.go rfl ?_
      refine topI (V := V) (n4 z hs) ?_
      refine hV.go rfl ?_
      refine And.intro (fun hc => ?_) (fun _ => ?_)
      · have hc : nI A.1 ≤ nI k := hc
        rw [nI_leI (by omega) (by omega)] at hc
        omega
      iterate 4 refine hV.go rfl ?_
      refine topI (V := V) (nI_1 k) ?_
      refine hV.go rfl ?_
      refine And.intro (callP_v (m_orderFrom G (hwk z hs) (show k + 1 ≤ 12 by omega)) (by decide) (by decide) ?_) trivial
      have hne : ¬ lN (ord (Gen A.2.1) (12 - (k + 1)) (k + 1)) = 0 := fun e => by
        have e : lN (ord (Gen A.2.1) (12 - (k + 1)) (k + 1)) = lN 0 := e
        rw [pk_lEQ (by omega) (by decide)] at e
        omega
      iterate 4 refine hV.go rfl ?_
      refine And.intro hne ?_
      refine topJ (V := V) (pk_lDiv (by omega) hpos (by omega)) ?_
      refine hV.go rfl ?_
      refine topI (V := V) (lN_i _) ?_
      rw [hdiv]
      iterate 4 refine hV.go rfl ?_
      refine And.intro hne ?_
      refine topJ (V := V) (pk_lRem (by omega) hpos (by omega)) ?_
      rw [hmod]
      have ploop : ∀ c2 p : Nat, p + c2 = A.1 → p ≤ iv ld (f k) → ∀ y10 y11 : Option AV, V 64 [some (vR 30), some (vJ (lN R)), none, some (vJ (lN (rnk (Gen A.2.1) f (12 - (k + 1)) (k + 1)))), none, some (vI (nI k)), some (vJ (lN (ord (Gen A.2.1) (12 - (k + 1)) (k + 1)))), none, some (vI (nI (lsr (Gen A.2.1) f k))), some (vI (nI p)), y10, y11] [] z 0 := by
        intro c2
        induction c2 with
        | zero =>
          intro p hp hle y10 y11
          omega
        | succ c2 ih2 =>
          intro p hp hle y10 y11
          have hpc : cls (cO s k) ld (ld p) ≤ 12 := by
            have := cn_le (fun q => decide (ld q < ld p) && decide (q ∈ cO s k)) A.1
            rw [cn_mem _ (hcw k (by omega)).1 (fun x hx => hr.lo hkn hx)] at this
            exact Nat.le_trans this n1.2
          iterate 3 refine hV.go rfl ?_
          refine topI (V := V) (n4 z hs) ?_
          refine hV.go rfl ?_
          refine And.intro (fun hc => ?_) (fun _ => ?_)
          · have hc : nI A.1 ≤ nI p := hc
            rw [nI_leI (by omega) (by omega)] at hc
            omega
          have cnt : ∀ c3 i : Nat, i + c3 = A.1 → V 79 [some (vR 30), some (vJ (lN R)), none, some (vJ (lN (rnk (Gen A.2.1) f (12 - (k + 1)) (k + 1)))), none, some (vI (nI k)), some (vJ (lN (ord (Gen A.2.1) (12 - (k + 1)) (k + 1)))), none, some (vI (nI (lsr (Gen A.2.1) f k))), some (vI (nI p)), some (vI (nI (cn (fun q => decide (ld q < ld p) && decide (q ∈ cO s k)) i))), some (vI (nI i))] [] z 0 := by
            intro c3
            induction c3 with
            | zero =>
              intro i hi
              iterate 3 refine hV.go rfl ?_
              refine topI (V := V) (n4 z hs) ?_
              refine hV.go rfl ?_
              refine And.intro (fun _ => ?_) (fun hc => absurd (show nI A.1 ≤ nI i from nI_le (by omega) (by omega)) hc)
              have : i = A.1 := by omega
              subst this
              rw [cn_mem _ (hcw k (by omega)).1 (fun x hx => hr.lo hkn hx)]
              have next : p ≠ iv ld (f k) → ∀ x10 x11, V 179 [some (vR 30), some (vJ (lN R)), none, some (vJ (lN (rnk (Gen A.2.1) f (12 - (k + 1)) (k + 1)))), none, some (vI (nI k)), some (vJ (lN (ord (Gen A.2.1) (12 - (k + 1)) (k + 1)))), none, some (vI (nI (lsr (Gen A.2.1) f k))), some (vI (nI p)), x10, x11] [] z 0 := by
                intro hne x10 x11
                iterate 2 refine hV.go rfl ?_
                have := ih2 (p + 1) (by omega) (by omega) x10 x11
                rw [← nI_inc p] at this
                exact this
              iterate 5 refine hV.go rfl ?_
              refine topI (V := V) (nI_mul 12 k) ?_
              iterate 2 refine hV.go rfl ?_
              refine topI (V := V) (nI_add _ _) ?_
              refine hV.go rfl ?_
              refine Exists.intro (12 * k + p) (And.intro rfl (And.intro (show 12 * k + p < 144 by omega) ?_))
              refine topI (V := V) (hcz.has (by omega) (by omega)) ?_
              refine hV.go rfl ?_
              refine And.intro (fun hz => ?_) (fun hz => ?_)
              · refine next (fun e => ?_) _ _
                rw [e, decide_eq_true hp0] at hz
                exact absurd (show (1 : Int32) = 0 from hz) (by decide)
              · have hm : p ∈ cO s k := of_decide_eq_true (b2i_ne.mp hz)
                iterate 3 refine hV.go rfl ?_
                refine And.intro (fun hc => ?_) (fun hc => ?_)
                · have hc : ¬ nI (cls (cO s k) ld (ld p)) = nI (lsr (Gen A.2.1) f k) := hc
                  refine next (fun e => hc ?_) _ _
                  rw [e, hv0, hls]
                · have hc : nI (cls (cO s k) ld (ld p)) = nI (lsr (Gen A.2.1) f k) := Classical.not_not.mp hc
                  rw [nI_eq (by omega) (by omega), ← hls, ← hv0] at hc
                  have hpe : p = iv ld (f k) := cls_uq hcp (by omega) hldp hm hp0 hc
                  have htk := hcp.tk (show k < 12 by omega) hm
                  have hrow := hcz.row (show k < 12 by omega) (show p < 12 by omega) hm
                  iterate 5 refine hV.go rfl ?_
                  refine topI (V := V) (nI_mul 12 k) ?_
                  iterate 2 refine hV.go rfl ?_
                  refine topI (V := V) (nI_add _ _) ?_
                  refine hV.go rfl ?_
                  refine topI (V := V) (nI_mul 12 _) ?_
                  refine hV.go rfl ?_
                  refine And.intro (callP_r (m_advance (po := fun v y => v = none ∧ Rw y 43 0 (cmp (cT s k p) ld) ∧ Sm [42, 43] z y) G (by omega) hrow htk.1.1 h43 (fun y a b => ⟨rfl, a, b⟩)) (by decide) (by decide) (fun r y hp => ?_)) trivial
                  obtain ⟨rfl, hy1, hy2⟩ := hp
                  iterate 3 refine hV.go rfl ?_
                  have := ih (k + 1) (by omega) y (cmp (cT s k p) ld) (some (vJ (lN (ord (Gen A.2.1) (12 - (k + 1)) (k + 1))))) none (some (vI (nI (lsr (Gen A.2.1) f k)))) (some (vI (nI p))) (some (vI (nI (cls (cO s k) ld (ld p))))) (some (vI (nI A.1))) (hs.tr hy2) hy1 (Gen.mul htk.2.1 hld) (fun j hj => by
                    show f j = ld (cT s k p j)
                    by_cases e : j < k
                    · rw [htk.1.2 j e]
                      exact hag j e
                    · have : j = k := by omega
                      subst this
                      rw [htk.2.2, hpe, hv0])
                  rw [← nI_inc k] at this
                  exact this
            | succ c3 ih3 =>
              intro i hi
              iterate 3 refine hV.go rfl ?_
              refine topI (V := V) (n4 z hs) ?_
              refine hV.go rfl ?_
              refine And.intro (fun hc => ?_) (fun _ => ?_)
              · have hc : nI A.1 ≤ nI i := hc
                rw [nI_leI (by omega) (by omega)] at hc
                omega
              have hldi : ld i < 12 := hldp.1 i (by omega)
              have hldq : ld p < 12 := hldp.1 p (by omega)
              have no : ¬ (decide (ld i < ld p) && decide (i ∈ cO s k)) = true → V 128 [some (vR 30), some (vJ (lN R)), none, some (vJ (lN (rnk (Gen A.2.1) f (12 - (k + 1)) (k + 1)))), none, some (vI (nI k)), some (vJ (lN (ord (Gen A.2.1) (12 - (k + 1)) (k + 1)))), none, some (vI (nI (lsr (Gen A.2.1) f k))), some (vI (nI p)), some (vI (nI (cn (fun q => decide (ld q < ld p) && decide (q ∈ cO s k)) i))), some (vI (nI i))] [] z 0 := by
                intro hno
                iterate 4 refine hV.go rfl ?_
                have := ih3 (i + 1) (by omega)
                rw [cn_f hno, ← nI_inc i] at this
                exact this
              iterate 5 refine hV.go rfl ?_
              refine topI (V := V) (nI_mul 12 k) ?_
              iterate 2 refine hV.go rfl ?_
              refine topI (V := V) (nI_add _ _) ?_
              refine hV.go rfl ?_
              refine Exists.intro (12 * k + i) (And.intro rfl (And.intro (show 12 * k + i < 144 by omega) ?_))
              refine topI (V := V) (hcz.has (by omega) (by omega)) ?_
              refine hV.go rfl ?_
              refine And.intro (fun hz => ?_) (fun hz => ?_)
              · refine no (fun e => ?_)
                rw [Bool.and_eq_true] at e
                exact b2i_ne.mpr e.2 hz
              · have hmi := b2i_ne.mp hz
                iterate 4 refine hV.go rfl ?_
                refine Exists.intro i (And.intro rfl (And.intro (show i < 12 by omega) ?_))
                refine topI (V := V) (h43.at (by omega)) ?_
                iterate 4 refine hV.go rfl ?_
                refine Exists.intro p (And.intro rfl (And.intro (show p < 12 by omega) ?_))
                refine topI (V := V) (h43.at (by omega)) ?_
                refine hV.go rfl ?_
                refine And.intro (fun hc => ?_) (fun hc => ?_)
                · have hc : nI (ld p) ≤ nI (ld i) := hc
                  rw [nI_leI (by omega) (by omega)] at hc
                  refine no (fun e => ?_)
                  rw [Bool.and_eq_true, decide_eq_true_iff] at e
                  omega
                · have hc : ¬ nI (ld p) ≤ nI (ld i) := hc
                  rw [nI_leI (by omega) (by omega)] at hc
                  iterate 3 refine hV.go rfl ?_
                  refine topI (V := V) (nI_1 _) ?_
                  iterate 4 refine hV.go rfl ?_
                  have := ih3 (i + 1) (by omega)
                  rw [cn_t (show (decide (ld i < ld p) && decide (i ∈ cO s k)) = true by rw [Bool.and_eq_true, decide_eq_true_iff]; exact ⟨by omega, hmi⟩), ← nI_inc i] at this
                  exact this
          iterate 4 refine hV.go rfl ?_
          exact cnt A.1 0 (by omega)
      iterate 3 refine hV.go rfl ?_
      exact ploop A.1 0 (by omega) (Nat.zero_le _) x10 x11
  have gloop : ∀ c i : Nat, i + c = 12 → ∀ y, Sm [43] w y → (∀ p, p < i → y.1 43 0 p = nI p) → V 5 [some (vR 30), some (vJ (lN R)), none, some (vJ (lN R)), none, some (vI (nI i)), none, none, none, none, none, none] [] y 0 := by
    intro c
    induction c with
    | zero =>
      intro i hi y hy hz
      iterate 3 refine hV.go rfl ?_
      refine And.intro (fun _ => ?_) (fun hc => absurd (show nI 12 ≤ nI i from nI_le (by omega) (by omega)) hc)
      iterate 2 refine hV.go rfl ?_
      have := main A.1 0 (by omega) y idp none none none none none none (hy.mono (by decide)) (Rw.of (fun x hx => hz x (by omega))) (Gen.id _) (fun j hj => by omega)
      rw [show rnk (Gen A.2.1) f (12 - 0) 0 = R from hR] at this
      exact this
    | succ c ih =>
      intro i hi y hy hz
      iterate 3 refine hV.go rfl ?_
      refine And.intro (fun hc => ?_) (fun _ => ?_)
      · have hc : nI 12 ≤ nI i := hc
        rw [nI_leI (by omega) (by omega)] at hc
        omega
      iterate 5 refine hV.go rfl ?_
      refine Exists.intro i (And.intro rfl (And.intro (show i < 12 by omega) ?_))
      iterate 2 refine hV.go rfl ?_
      have := ih (i + 1) (by omega) (wI y 43 0 i (nI i)) (Sm.wI (k := 43) hy (by decide)) (fun p hp => by
        by_cases e : p = i
        · rw [e, wI_eq]
        · rw [wI_ne (by omega)]
          exact hz p (by omega))
      rw [← nI_inc i] at this
      exact this
  iterate 4 refine hV.go rfl ?_
  exact gloop 12 0 rfl w Sm.rf (fun p hp => by omega)
end
