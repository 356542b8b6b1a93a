/-! the reference's ranks -/
section
variable {l : Launch} {E : En}
theorem m_rows1 {w : Wd} {po : Option AV → Wd → Prop} (G : GM l E) (h7 : w.1 30 0 7 = 1) (h : po none w) : Ctr l E 3 0 mX5_findRows [vR 30] w po noX := by
  refine Ctr.of (tw := []) G.1 G.2 oX5_ok pgX5_findRows rfl (by decide) rfl rfl (Nat.le_of_ble_eq_true rfl) ?_
  intro V hV
  iterate 2 refine hV.go rfl ?_
  refine topI (V := V) h7 ?_
  refine hV.go rfl ?_
  refine And.intro (fun hc => absurd (show (1 : Int32) = 0 from hc) (by decide)) (fun _ => ?_)
  refine hV.go rfl ?_
  exact ⟨h, Nat.le_refl _⟩
theorem m_rankG {w : Wd} {A : AS} {f : Nat → Nat} {Q : Wd → Prop} {po : Option AV → Wd → Prop} (G : GM l E) (hfr : Ctr l E 3 0 mX5_findRows [vR 30] w (fun v u => v = none ∧ ∃ s, RC u A s ∧ Q u) noX) (h37 : ∀ u, Q u → ∀ i, i < A.1 → u.1 37 0 i = nI (f i)) (hf : Lw A.1 f) (h1 : ∀ u z s, Q u → RC z A s → Sm [36, 38, 42, 43] u z → Gen A.2.1 f → po (some (vJ (lN (rN A.2.1 f)))) z) (h2 : ∀ u z s, Q u → RC z A s → Sm [36, 38, 42, 43] u z → ¬ Gen A.2.1 f → po (some (vJ (-1))) z) : Ctr l E 4 0 mX5_rankOf [vR 30] w po noX := by
  refine Ctr.of (tw := []) G.1 G.2 oX5_ok pgX5_rankOf rfl (by decide) rfl rfl (Nat.le_of_ble_eq_true rfl) ?_
  intro V hV
  iterate 2 refine hV.go rfl ?_
  refine And.intro (callP_r hfr (by decide) (by decide) (fun r u hp => ?_)) trivial
  obtain ⟨rfl, s, hr, hq⟩ := hp
  have n1 := hr.1.1.1
  have n4 : ∀ z, Sm [36, 38, 42, 43] u z → z.1 30 0 1 = nI A.1 := fun z hz => by rw [(hz 30 (by decide)).1]; exact hr.1.1.2.2.2.1
  have hwk : ∀ z, Sm [36, 38, 42, 43] u z → RC z A s := fun z hz => hr.wk (hz.mono (by decide))
  have hcp := hr.2.2.2
  have hgr := hr.gr
  have hcw := hcp.1
  have main : ∀ c k : Nat, k + c = A.1 → ∀ (z : Wd) (tot : Nat) (ld rs : Nat → Nat) (x4 x5 x6 : Option AV), Sm [36, 38, 42, 43] u z → Rw z 36 0 rs → Rw z 43 0 ld → Lw A.1 rs → Fx k rs → f = cmp rs ld → Gen A.2.1 ld → (Gen A.2.1 f → tot + rnk (Gen A.2.1) f (12 - k) k = rN A.2.1 f) → V 67 [some (vR 30), some (vJ (lN tot)), none, some (vI (nI k)), x4, x5, x6] [] z 0 := by
    intro c
    induction c with
    | zero =>
      intro k hk z tot ld rs x4 x5 x6 hs h36 h43 hlw hfx he hld ht
      iterate 3 refine hV.go rfl ?_
      refine topI (V := V) (n4 z hs) ?_
      refine hV.go rfl ?_
      refine And.intro (fun _ => ?_) (fun hc => absurd (show nI A.1 ≤ nI k from nI_le (by omega) (by omega)) hc)
      repeat refine hV.go rfl ?_
      have hid : rs = idp := by
        funext i
        by_cases e : i < A.1
        · exact hfx.2 i (by omega)
        · exact hlw.2 i (by omega)
      rw [hid, id_cmp] at he
      have hg : Gen A.2.1 f := by rw [he]; exact hld
      have := ht hg
      rw [hr.rnk0 f (12 - k) k (by omega) (by omega), Nat.add_zero] at this
      rw [this]
      exact ⟨h1 u z s hq (hwk z hs) hs hg, Nat.le_refl _⟩
    | succ c ih =>
      intro k hk z tot ld rs x4 x5 x6 hs h36 h43 hlw hfx he hld ht
      have hkn : k < A.1 := by omega
      have hrk := hlw.lt hkn
      have hldp := (hr.lw hld).1
      have hcz := (hwk z hs).2.2.1
      have hfk : ld (rs k) = f k := by rw [he]; rfl
      iterate 3 refine hV.go rfl ?_
      refine topI (V := V) (n4 z hs) ?_
      refine hV.go rfl ?_
      refine And.intro (fun hc => ?_) (fun _ => ?_)
      · have hc : nI A.1 ≤ nI k := hc
        rw [nI_leI (by omega) (by omega)] at hc
        omega
      iterate 4 refine hV.go rfl ?_
      refine Exists.intro k (And.intro rfl (And.intro (show k < 12 by omega) ?_))
      refine topI (V := V) (h36.at (by omega)) ?_
      iterate 6 refine hV.go rfl ?_
      refine topI (V := V) (nI_mul 12 k) ?_
      iterate 2 refine hV.go rfl ?_
      refine topI (V := V) (nI_add _ _) ?_
      refine hV.go rfl ?_
      refine Exists.intro (12 * k + rs k) (And.intro rfl (And.intro (show 12 * k + rs k < 144 by omega) ?_))
      refine topI (V := V) (hcz.has (by omega) (by omega)) ?_
      refine hV.go rfl ?_
      refine And.intro (fun hz => ?_) (fun hz => ?_)
      · have hm : rs k ∈ cO s k := of_decide_eq_true (b2i_ne.mp hz)
        have htk := hcp.tk (show k < 12 by omega) hm
        have hrow := hcz.row (show k < 12 by omega) (show rs k < 12 by omega) hm
        have cnt : ∀ c2 i : Nat, i + c2 = A.1 → V 108 [some (vR 30), some (vJ (lN tot)), none, some (vI (nI k)), some (vI (nI (rs k))), some (vI (nI (cn (fun q => decide (ld q < f k) && decide (q ∈ cO s k)) i))), some (vI (nI i))] [] z 0 := by
          intro c2
          induction c2 with
          | zero =>
            intro i hi
            iterate 3 refine hV.go rfl ?_
            refine topI (V := V) (n4 z hs) ?_
            refine hV.go rfl ?_
            refine And.intro (fun _ => ?_) (fun hc => absurd (show nI A.1 ≤ nI i from nI_le (by omega) (by omega)) hc)
            have : i = A.1 := by omega
            subst this
            have ec : cn (fun q => decide (ld q < f k) && decide (q ∈ cO s k)) A.1 = cls (cO s k) ld (f k) := cn_mem _ (hcw k (by omega)).1 (fun x hx => hr.lo hkn hx)
            have hle := cn_le (fun q => decide (ld q < f k) && decide (q ∈ cO s k)) A.1
            rw [ec] at hle ⊢
            iterate 3 refine hV.go rfl ?_
            refine topJ (V := V) (nI_l (by omega)) ?_
            iterate 4 refine hV.go rfl ?_
            refine topI (V := V) (nI_1 k) ?_
            refine hV.go rfl ?_
            refine And.intro (callP_v (m_orderFrom G (hwk z hs) (show k + 1 ≤ 12 by omega)) (by decide) (by decide) ?_) trivial
            refine hV.go rfl ?_
            refine topJ (V := V) (lN_mul _ _) ?_
            refine hV.go rfl ?_
            refine topJ (V := V) (lN_add _ _) ?_
            iterate 5 refine hV.go rfl ?_
            refine topI (V := V) (nI_mul 12 k) ?_
            iterate 2 refine hV.go rfl ?_
            refine topI (V := V) (nI_add _ _) ?_
            refine hV.go rfl ?_
            refine topI (V := V) (nI_mul 12 _) ?_
            iterate 4 refine hV.go rfl ?_
            refine And.intro (callP_r (m_advance (po := fun v y => v = none ∧ Rw y 43 0 (cmp (cT s k (rs k)) ld) ∧ Sm [42, 43] z y) G (by omega) hrow htk.1.1 h43 (fun y a b => ⟨rfl, a, b⟩)) (by decide) (by decide) (fun r y hp => ?_)) trivial
            obtain ⟨rfl, hy1, hy2⟩ := hp
            iterate 3 refine hV.go rfl ?_
            refine And.intro (callP_r (m_takeOff (po := fun v y2 => v = none ∧ Rw y2 36 0 (cmp rs (iv (cT s k (rs k)))) ∧ Sm [36, 38] y y2) G (by omega) (hrow.cg (hy2 35 (by decide)).1) htk.1.1 (h36.cg (hy2 36 (by decide)).1) hlw.1 (fun y2 a b => ⟨rfl, a, b⟩)) (by decide) (by decide) (fun r y2 hp => ?_)) trivial
            obtain ⟨rfl, hz1, hz2⟩ := hp
            iterate 2 refine hV.go rfl ?_
            have := ih (k + 1) (by omega) y2 (tot + cls (cO s k) ld (f k) * ord (Gen A.2.1) (12 - (k + 1)) (k + 1)) (cmp (cT s k (rs k)) ld) (cmp rs (iv (cT s k (rs k)))) (some (vI (nI (rs k)))) (some (vI (nI (cls (cO s k) ld (f k))))) (some (vI (nI (12 * (12 * k + rs k))))) ((hs.tr (hy2.mono (by decide))).tr (hz2.mono (by decide))) hz1 (hy1.cg (hz2 43 (by decide)).1) (hlw.cmp (hr.lw htk.2.1).iv) (rest_fx hcw (by omega) hfx hm) (by
              rw [cmp_assoc, ← cmp_assoc (iv _), iv_cmp htk.1.1, id_cmp]
              exact he) (Gen.mul htk.2.1 hld) (fun hg => by
              rw [← ht hg, rnk_st (show k < 12 by omega), hcp.z_lsr hgr (by omega) hg hld (fun j hj => by rw [he]; show ld (rs j) = _; rw [hfx.2 j hj])]
              omega)
            rw [← nI_inc k] at this
            exact this
          | succ c2 ih2 =>
            intro i hi
            iterate 3 refine hV.go rfl ?_
            refine topI (V := V) (n4 z hs) ?_
            refine hV.go rfl ?_
            refine And.intro (fun hc => ?_) (fun _ => ?_)
            · have hc : nI A.1 ≤ nI i := hc
              rw [nI_leI (by omega) (by omega)] at hc
              omega
            have hldi : ld i < 12 := hldp.1 i (by omega)
            have hfk12 : f k < 12 := hf.1.1 k (by omega)
            have no : ¬ (decide (ld i < f k) && decide (i ∈ cO s k)) = true → V 156 [some (vR 30), some (vJ (lN tot)), none, some (vI (nI k)), some (vI (nI (rs k))), some (vI (nI (cn (fun q => decide (ld q < f k) && decide (q ∈ cO s k)) i))), some (vI (nI i))] [] z 0 := by
              intro hno
              iterate 4 refine hV.go rfl ?_
              have := ih2 (i + 1) (by omega)
              rw [cn_f hno, ← nI_inc i] at this
              exact this
            iterate 5 refine hV.go rfl ?_
            refine topI (V := V) (nI_mul 12 k) ?_
            iterate 2 refine hV.go rfl ?_
            refine topI (V := V) (nI_add _ _) ?_
            refine hV.go rfl ?_
            refine Exists.intro (12 * k + i) (And.intro rfl (And.intro (show 12 * k + i < 144 by omega) ?_))
            refine topI (V := V) (hcz.has (by omega) (by omega)) ?_
            refine hV.go rfl ?_
            refine And.intro (fun hz => ?_) (fun hz => ?_)
            · refine no (fun e => ?_)
              rw [Bool.and_eq_true] at e
              exact b2i_ne.mpr e.2 hz
            · have hmi := b2i_ne.mp hz
              iterate 4 refine hV.go rfl ?_
              refine Exists.intro i (And.intro rfl (And.intro (show i < 12 by omega) ?_))
              refine topI (V := V) (h43.at (by omega)) ?_
              iterate 4 refine hV.go rfl ?_
              refine Exists.intro (rs k) (And.intro rfl (And.intro (show rs k < 12 by omega) ?_))
              refine topI (V := V) (show z.1 43 0 (rs k) = nI (f k) by rw [h43.at (by omega), hfk]) ?_
              refine hV.go rfl ?_
              refine And.intro (fun hc => ?_) (fun hc => ?_)
              · have hc : nI (f k) ≤ nI (ld i) := hc
                rw [nI_leI (by omega) (by omega)] at hc
                refine no (fun e => ?_)
                rw [Bool.and_eq_true, decide_eq_true_iff] at e
                omega
              · have hc : ¬ nI (f k) ≤ nI (ld i) := hc
                rw [nI_leI (by omega) (by omega)] at hc
                iterate 3 refine hV.go rfl ?_
                refine topI (V := V) (nI_1 _) ?_
                iterate 4 refine hV.go rfl ?_
                have := ih2 (i + 1) (by omega)
                rw [cn_t (show (decide (ld i < f k) && decide (i ∈ cO s k)) = true by rw [Bool.and_eq_true, decide_eq_true_iff]; exact ⟨by omega, hmi⟩), ← nI_inc i] at this
                exact this
        iterate 4 refine hV.go rfl ?_
        exact cnt A.1 0 (by omega)
      · repeat refine hV.go rfl ?_
        refine ⟨h2 u z s hq (hwk z hs) hs (fun hg => hz (b2i_ne.mpr (decide_eq_true ?_))), Nat.le_refl _⟩
        refine (hcp.orb (by omega)).mpr ⟨rs, ?_, hfx, rfl⟩
        have e : rs = cmp f (iv ld) := by rw [he, cmp_assoc, cmp_iv hldp, cmp_id]
        rw [e]
        exact hgr.2.1 _ _ hg (hgr.2.2.1 _ hld)
  have gloop : ∀ z, Sm [36, 38, 42, 43] u z → Rw z 36 0 f → ∀ c i : Nat, i + c = 12 → ∀ y, Sm [43] z y → (∀ p, p < i → y.1 43 0 p = nI p) → V 46 [some (vR 30), some (vJ (lN 0)), none, some (vI (nI i)), none, none, none] [] y 0 := by
    intro z hs h36 c
    induction c with
    | zero =>
      intro i hi y hy hz
      iterate 3 refine hV.go rfl ?_
      refine And.intro (fun _ => ?_) (fun hc => absurd (show nI 12 ≤ nI i from nI_le (by omega) (by omega)) hc)
      iterate 2 refine hV.go rfl ?_
      exact main A.1 0 (by omega) y 0 idp f none none none (hs.tr (hy.mono (by decide))) (h36.cg (hy 36 (by decide)).1) (Rw.of (fun x hx => hz x (by omega))) hf ⟨hf.1, fun j hj => by omega⟩ (cmp_id f).symm (Gen.id _) (fun _ => Nat.zero_add _)
    | succ c ih =>
      intro i hi y hy hz
      iterate 3 refine hV.go rfl ?_
      refine And.intro (fun hc => ?_) (fun _ => ?_)
      · have hc : nI 12 ≤ nI i := hc
        rw [nI_leI (by omega) (by omega)] at hc
        omega
      iterate 5 refine hV.go rfl ?_
      refine Exists.intro i (And.intro rfl (And.intro (show i < 12 by omega) ?_))
      iterate 2 refine hV.go rfl ?_
      have := ih (i + 1) (by omega) (wI y 43 0 i (nI i)) (Sm.wI (k := 43) hy (by decide)) (fun p hp => by
        by_cases e : p = i
        · rw [e, wI_eq]
        · rw [wI_ne (by omega)]
          exact hz p (by omega))
      rw [← nI_inc i] at this
      exact this
  have wloop : ∀ c i : Nat, i + c = 12 → ∀ y, Sm [36] u y → (∀ p, p < i → y.1 36 0 p = nI (f p)) → V 6 [some (vR 30), some (vI (nI i)), none, none, none, none, none] [] y 0 := by
    intro c
    induction c with
    | zero =>
      intro i hi y hy hz
      iterate 3 refine hV.go rfl ?_
      refine And.intro (fun _ => ?_) (fun hc => absurd (show nI 12 ≤ nI i from nI_le (by omega) (by omega)) hc)
      iterate 4 refine hV.go rfl ?_
      exact gloop y (hy.mono (by decide)) (Rw.of (fun x hx => hz x (by omega))) 12 0 rfl y Sm.rf (fun p hp => by omega)
    | succ c ih =>
      intro i hi y hy hz
      iterate 3 refine hV.go rfl ?_
      refine And.intro (fun hc => ?_) (fun _ => ?_)
      · have hc : nI 12 ≤ nI i := hc
        rw [nI_leI (by omega) (by omega)] at hc
        omega
      have sto : V 35 [some (vR 30), some (vI (nI i)), none, none, none, none, none] [vI (nI (f i)), vI (nI i), vR 36] y 0 := by
        refine hV.go rfl ?_
        refine Exists.intro i (And.intro rfl (And.intro (show i < 12 by omega) ?_))
        iterate 2 refine hV.go rfl ?_
        have := ih (i + 1) (by omega) (wI y 36 0 i (nI (f i))) (Sm.wI (k := 36) hy (by decide)) (fun p hp => by
          by_cases e : p = i
          · rw [e, wI_eq]
          · rw [wI_ne (by omega)]
            exact hz p (by omega))
        rw [← nI_inc i] at this
        exact this
      iterate 6 refine hV.go rfl ?_
      refine topI (V := V) (n4 y (hy.mono (by decide))) ?_
      refine hV.go rfl ?_
      refine And.intro (fun hc => ?_) (fun hc => ?_)
      · have hc : nI A.1 ≤ nI i := hc
        rw [nI_leI (by omega) (by omega)] at hc
        refine hV.go rfl ?_
        rw [hf.2 i hc] at sto
        exact sto
      · have hc : ¬ nI A.1 ≤ nI i := hc
        rw [nI_leI (by omega) (by omega)] at hc
        iterate 4 refine hV.go rfl ?_
        refine Exists.intro i (And.intro rfl (And.intro (show i < 12 by omega) ?_))
        refine topI (V := V) (show y.1 37 0 i = nI (f i) by rw [(hy 37 (by decide)).1]; exact h37 u hq i (by omega)) ?_
        refine hV.go rfl ?_
        exact sto
  iterate 2 refine hV.go rfl ?_
  exact wloop 12 0 rfl u Sm.rf (fun p hp => by omega)
end
