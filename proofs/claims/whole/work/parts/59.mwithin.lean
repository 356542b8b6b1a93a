/-! the reference: within -/
def apS (mv : List (Nat → Nat)) : Nat → Nat → (Nat → Nat) → Nat → Nat
  | 0, _, f => f
  | n + 1, c, f => apS mv n (c / mv.length) (cmp f (mv.getD (c % mv.length) idp))
theorem apS_rn {mv : List (Nat → Nat)} (hs : Sym mv) : ∀ n f, (∃ c, c < mv.length ^ n ∧ apS mv n c f = idp) ↔ Rn mv n f
  | 0, f => ⟨fun ⟨c, _, h⟩ => h, fun h => ⟨0, Nat.one_pos, h⟩⟩
  | n + 1, f => by
    constructor
    · rintro ⟨c, hc, h⟩
      have hK : 0 < mv.length := by
        rcases Nat.eq_zero_or_pos mv.length with z | z
        · rw [z, Nat.pow_succ, Nat.mul_zero] at hc
          omega
        · exact z
      have hm := Nat.mod_lt c hK
      have hr := (apS_rn hs n (cmp f (mv.getD (c % mv.length) idp))).mp ⟨c / mv.length, (Nat.div_lt_iff_lt_mul hK).mpr (by rwa [Nat.pow_succ] at hc), h⟩
      refine hs.up ?_ hr
      rw [List.getD_eq_getElem?_getD, List.getElem?_eq_getElem hm]
      exact List.getElem_mem _
    · rintro ⟨g, m, hg, hm, rfl⟩
      obtain ⟨i, hi⟩ := List.getElem?_of_mem (hs.2 m hm)
      have hil := (List.getElem?_eq_some_iff.mp hi).1
      have e : cmp (cmp g m) (iv m) = g := hs.back hm
      obtain ⟨c, hc, h⟩ := (apS_rn hs n g).mpr hg
      refine ⟨mv.length * c + i, ?_, ?_⟩
      · rw [Nat.pow_succ]
        have : mv.length * (c + 1) ≤ mv.length * mv.length ^ n := Nat.mul_le_mul_left _ hc
        rw [Nat.mul_comm (mv.length ^ n)]
        rw [Nat.mul_add, Nat.mul_one] at this
        omega
      · show apS mv n ((mv.length * c + i) / mv.length) (cmp (cmp g m) (mv.getD ((mv.length * c + i) % mv.length) idp)) = idp
        rw [Nat.mul_add_div (by omega), Nat.div_eq_of_lt hil, Nat.add_zero, Nat.mul_add_mod, Nat.mod_eq_of_lt hil, List.getD_eq_getElem?_getD, hi]
        show apS mv n c (cmp (cmp g m) (iv m)) = idp
        rw [e]
        exact h
section
variable {l : Launch} {E : En}
theorem m_solves {w : Wd} {A : AS} {n c0 : Nat} {po : Option AV → Wd → Prop} (G : GM l E) (hw : QI w A) (hn : n ≤ 4) (hc : c0 < (mvs A.2.1).length ^ n) (hpo : ∀ u, Sm [37] w u → po (some (vI (b2i (cd (apS (mvs A.2.1) n c0 A.2.2.1 = idp))))) u) : Ctr l E 2 0 mX5_solves [vR 30, vI (nI c0), vI (nI n)] w po noX := by
  refine Ctr.of (tw := []) G.1 G.2 oX5_ok pgX5_solves rfl (by decide) rfl rfl (Nat.le_of_ble_eq_true rfl) ?_
  intro V hV
  obtain ⟨n1, n2, n3, n4, n5, n6, n7⟩ := id hw.1
  have hlen := mvs_len A.2.1
  have hml := mvs_lw n2.2
  have hc31 : c0 < 2 ^ 31 := by
    have h1 : (mvs A.2.1).length ^ n ≤ 10 ^ n := Nat.pow_le_pow_left (by omega) n
    have h2 : 10 ^ n ≤ 10 ^ 4 := Nat.pow_le_pow_right (by decide) hn
    omega
  iterate 2 refine hV.go rfl ?_
  refine And.intro (callP_r (m_takeTable (tb := A.2.2.1) (po := fun v z => v = none ∧ (∀ s, s < A.1 → z.1 37 0 s = nI (A.2.2.1 s)) ∧ Sm [37] w z) G n1.2 n7 (fun u a b => ⟨rfl, a, b⟩)) (by decide) (by decide) (fun r u hp => ?_)) trivial
  obtain ⟨rfl, h37, hs⟩ := hp
  have k1 : ∀ z, Sm [37] w z → z.1 30 0 1 = nI A.1 := fun z hz => by rw [(hz 30 (by decide)).1]; exact n4
  have k2 : ∀ z, Sm [37] w z → z.1 30 0 2 = nI A.2.1.length := fun z hz => by rw [(hz 30 (by decide)).1]; exact n5
  have chk : ∀ z f, Sm [37] w z → (∀ s, s < A.1 → z.1 37 0 s = nI (f s)) → Lw A.1 f → apS (mvs A.2.1) n c0 A.2.2.1 = f → ∀ c i : Nat, i + c = A.1 → ∀ (b : Bool) (x3 : Int32) (x6 : Option AV), (b = true ↔ ∀ p, p < i → f p = p) → V 84 [some (vR 30), some (vI (nI c0)), some (vI (nI n)), some (vI x3), some (vI (b2i b)), some (vI (nI i)), x6] [] z 0 := by
    intro z f hz hf hL he c
    induction c with
    | zero =>
      intro i hi b x3 x6 hb
      iterate 3 refine hV.go rfl ?_
      refine topI (V := V) (k1 z hz) ?_
      refine hV.go rfl ?_
      refine And.intro (fun _ => ?_) (fun hc => absurd (show nI A.1 ≤ nI i from nI_le (by omega) (by omega)) hc)
      repeat refine hV.go rfl ?_
      have e : b = cd (apS (mvs A.2.1) n c0 A.2.2.1 = idp) := by
        rw [he]
        have hiff : b = true ↔ f = idp := by
          rw [hb]
          constructor
          · intro h
            funext p
            by_cases e : p < i
            · exact h p e
            · exact hL.2 p (by omega)
          · intro h p _
            rw [h]
            rfl
        cases b with
        | true => exact (cd_t.mpr (hiff.mp rfl)).symm
        | false => exact (cd_f.mpr (fun q => by have := hiff.mpr q; cases this)).symm
      rw [e]
      exact ⟨b2i_01 _, hpo z hz, Nat.le_refl _⟩
    | succ c ih =>
      intro i hi b x3 x6 hb
      have hfi : f i < 12 := hL.1.1 i (by omega)
      iterate 3 refine hV.go rfl ?_
      refine topI (V := V) (k1 z hz) ?_
      refine hV.go rfl ?_
      refine And.intro (fun hc => ?_) (fun _ => ?_)
      · have hc : nI A.1 ≤ nI i := hc
        rw [nI_leI (by omega) (by omega)] at hc
        omega
      have no : (¬ ∀ p, p < i + 1 → f p = p) → V 114 [some (vR 30), some (vI (nI c0)), some (vI (nI n)), some (vI x3), some (vI (b2i b)), some (vI (nI i)), x6] [] z 0 := by
        intro hno
        iterate 4 refine hV.go rfl ?_
        have := ih (i + 1) (by omega) false x3 x6 ⟨fun q => absurd q (by decide), fun q => (hno q).elim⟩
        rw [← nI_inc i] at this
        exact this
      iterate 2 refine hV.go rfl ?_
      refine And.intro (fun hc => ?_) (fun hc => ?_)
      · refine no (fun q => ?_)
        have : b = true := hb.mpr (fun p hp => q p (by omega))
        exact b2i_ne.mpr this hc
      · have hbt : b = true := b2i_ne.mp hc
        iterate 4 refine hV.go rfl ?_
        refine Exists.intro i (And.intro rfl (And.intro (show i < 12 by omega) ?_))
        refine topI (V := V) (hf i (by omega)) ?_
        iterate 2 refine hV.go rfl ?_
        refine And.intro (fun hc => ?_) (fun hc => ?_)
        · have hc : ¬ nI (f i) = nI i := hc
          rw [nI_eq (by omega) (by omega)] at hc
          exact no (fun q => hc (q i (by omega)))
        · have hc : nI (f i) = nI i := Classical.not_not.mp hc
          rw [nI_eq (by omega) (by omega)] at hc
          iterate 5 refine hV.go rfl ?_
          have := ih (i + 1) (by omega) true x3 x6 ⟨fun _ p hp => by
            by_cases e : p = i
            · rw [e]
              exact hc
            · exact hb.mp hbt p (by omega), fun _ => rfl⟩
          rw [← nI_inc i] at this
          exact this
  have main : ∀ c i : Nat, i + c = n → ∀ (z : Wd) (f : Nat → Nat) (cc : Nat) (x5 x6 : Option AV), Sm [37] w z → (∀ s, s < A.1 → z.1 37 0 s = nI (f s)) → Lw A.1 f → cc ≤ c0 → cc < (mvs A.2.1).length ^ c → apS (mvs A.2.1) n c0 A.2.2.1 = apS (mvs A.2.1) c cc f → V 9 [some (vR 30), some (vI (nI c0)), some (vI (nI n)), some (vI (nI cc)), some (vI (nI i)), x5, x6] [] z 0 := by
    intro c
    induction c with
    | zero =>
      intro i hi z f cc x5 x6 hz hf hL hcc hlt he
      iterate 3 refine hV.go rfl ?_
      refine And.intro (fun _ => ?_) (fun hc => absurd (show nI n ≤ nI i from nI_le (by omega) (by omega)) hc)
      iterate 4 refine hV.go rfl ?_
      exact chk z f hz hf hL he A.1 0 (by omega) true _ x6 ⟨fun _ p hp => by omega, fun _ => rfl⟩
    | succ c ih =>
      intro i hi z f cc x5 x6 hz hf hL hcc hlt he
      have hK : 0 < (mvs A.2.1).length := by
        rcases Nat.eq_zero_or_pos (mvs A.2.1).length with q | q
        · rw [q, Nat.pow_succ, Nat.mul_zero] at hlt
          omega
        · exact q
      have hmod := Nat.mod_lt cc hK
      have hm : (mvs A.2.1)[cc % (mvs A.2.1).length]? = some (mvs A.2.1)[cc % (mvs A.2.1).length] := List.getElem?_eq_getElem hmod
      generalize hmm : (mvs A.2.1)[cc % (mvs A.2.1).length] = m at hm
      have hmL : Lw A.1 m := hml m (List.mem_of_getElem? hm)
      have hne : ¬ nI (2 * A.2.1.length) = 0 := fun q => by
        have q : nI (2 * A.2.1.length) = nI 0 := q
        rw [nI_eq (by omega) (by omega)] at q
        omega
      iterate 3 refine hV.go rfl ?_
      refine And.intro (fun hc => ?_) (fun _ => ?_)
      · have hc : nI n ≤ nI i := hc
        rw [nI_leI (by omega) (by omega)] at hc
        omega
      iterate 4 refine hV.go rfl ?_
      refine topI (V := V) (k2 z hz) ?_
      refine hV.go rfl ?_
      refine topI (V := V) (nI_mul 2 _) ?_
      refine hV.go rfl ?_
      refine And.intro hne ?_
      refine topI (V := V) (pk_rem (by omega) (by omega) (by omega)) ?_
      iterate 5 refine hV.go rfl ?_
      refine topI (V := V) (k2 z hz) ?_
      refine hV.go rfl ?_
      refine topI (V := V) (nI_mul 2 _) ?_
      refine hV.go rfl ?_
      refine And.intro hne ?_
      refine topI (V := V) (pk_div (by omega) (by omega) (by omega)) ?_
      rw [← hlen]
      have inner : ∀ c2 j : Nat, j + c2 = A.1 → ∀ y, Sm [37] w y → (∀ p, p < A.1 → y.1 37 0 p = nI (if p < j then m (f p) else f p)) → V 37 [some (vR 30), some (vI (nI c0)), some (vI (nI n)), some (vI (nI (cc / (mvs A.2.1).length))), some (vI (nI i)), some (vI (nI (cc % (mvs A.2.1).length))), some (vI (nI j))] [] y 0 := by
        intro c2
        induction c2 with
        | zero =>
          intro j hj y hy h
          iterate 3 refine hV.go rfl ?_
          refine topI (V := V) (k1 y hy) ?_
          refine hV.go rfl ?_
          refine And.intro (fun _ => ?_) (fun hc => absurd (show nI A.1 ≤ nI j from nI_le (by omega) (by omega)) hc)
          iterate 2 refine hV.go rfl ?_
          have hdl := Nat.div_le_self cc (mvs A.2.1).length
          have := ih (i + 1) (by omega) y (cmp f m) (cc / (mvs A.2.1).length) (some (vI (nI (cc % (mvs A.2.1).length)))) (some (vI (nI j))) hy (fun p hp => by
            rw [h p hp]
            by_cases q : p < j
            · rw [if_pos q]
              rfl
            · rw [if_neg q]
              show nI (f p) = nI (m (f p))
              rw [hL.2 p (by omega), hmL.2 p (by omega)]) (hL.cmp hmL) (by omega) ((Nat.div_lt_iff_lt_mul hK).mpr (by rwa [Nat.pow_succ] at hlt)) (by
            rw [he]
            show apS _ c _ (cmp f ((mvs A.2.1).getD (cc % (mvs A.2.1).length) idp)) = _
            rw [List.getD_eq_getElem?_getD, hm]
            rfl)
          rw [← nI_inc i] at this
          exact this
        | succ c2 ih2 =>
          intro j hj y hy h
          iterate 3 refine hV.go rfl ?_
          refine topI (V := V) (k1 y hy) ?_
          refine hV.go rfl ?_
          refine And.intro (fun hc => ?_) (fun _ => ?_)
          · have hc : nI A.1 ≤ nI j := hc
            rw [nI_leI (by omega) (by omega)] at hc
            omega
          iterate 9 refine hV.go rfl ?_
          refine Exists.intro j (And.intro rfl (And.intro (show j < 12 by omega) ?_))
          refine topI (V := V) (show y.1 37 0 j = nI (f j) by rw [h j (by omega), if_neg (by omega)]) ?_
          refine hV.go rfl ?_
          refine And.intro (callP_v (m_taken (p := f j) G n2.1 (MT.cg n6 (hy 31 (by decide)).1) hm (hL.1.1 j (by omega))) (by decide) (by decide) ?_) trivial
          refine hV.go rfl ?_
          refine Exists.intro j (And.intro rfl (And.intro (show j < 12 by omega) ?_))
          iterate 2 refine hV.go rfl ?_
          have := ih2 (j + 1) (by omega) (wI y 37 0 j (nI (m (f j)))) (Sm.wI (k := 37) hy (by decide)) (fun p hp => by
            by_cases e : p = j
            · rw [e, wI_eq, if_pos (by omega)]
            · rw [wI_ne (by omega), h p hp]
              by_cases q : p < j
              · rw [if_pos q, if_pos (by omega)]
              · rw [if_neg q, if_neg (by omega)])
          rw [← nI_inc j] at this
          exact this
      iterate 3 refine hV.go rfl ?_
      exact inner A.1 0 (by omega) z hz (fun p hp => by rw [if_neg (by omega)]; exact hf p hp)
  iterate 4 refine hV.go rfl ?_
  exact main n 0 (by omega) u A.2.2.1 c0 none none hs h37 n3 (Nat.le_refl _) hc rfl
theorem m_within {w : Wd} {A : AS} {x : Int32} {po : Option AV → Wd → Prop} (G : GM l E) (hw : QI w A) (h1 : ∀ k, k ≤ 4 → x = nI k → ∀ u y, WT (mvs A.2.1) A.2.2.1 k y → QI u A → u.1 30 0 0 = 0 → Sm mdK w u → po (some (vI y)) u) (h2 : (x < 0 ∨ nI 5 ≤ x) → ∀ u, QI u A → u.1 30 0 0 = 1 → Sm mdK w u → po (some (vI 0)) u) : Ctr l E 3 0 mX5_within [vR 30, vI x] w po noX := by
  refine Ctr.of (tw := []) G.1 G.2 oX5_ok pgX5_within rfl (by decide) rfl rfl (Nat.le_of_ble_eq_true rfl) ?_
  intro V hV
  obtain ⟨n1, n2, n3, n4, n5, n6, n7⟩ := id hw.1
  have hlen := mvs_len A.2.1
  have hsym : Sym (mvs A.2.1) := mvs_sym (fun t ht => (n2.2 t ht).1)
  have bad : (x < 0 ∨ nI 5 ≤ x) → V 10 [some (vR 30), some (vI x), none, none, none] [vR 30] w 0 := by
    intro hb
    iterate 5 refine hV.go rfl ?_
    refine topI (V := V) (show (wI w 30 0 0 1).1 30 0 0 = 1 from wI_eq) ?_
    refine hV.go rfl ?_
    refine And.intro (fun hc => absurd (show (1 : Int32) ≤ 0 from hc) (by decide)) (fun _ => ?_)
    repeat refine hV.go rfl ?_
    exact ⟨h2 hb _ (hw.th _) wI_eq (Sm.wI (k := 30) Sm.rf (by decide)), Nat.le_refl _⟩
  iterate 3 refine hV.go rfl ?_
  refine And.intro (fun hc => bad (Or.inl hc)) (fun hc => ?_)
  have hnn : ¬ x < 0 := hc
  iterate 3 refine hV.go rfl ?_
  refine And.intro (fun hc => ?_) (fun hc => ?_)
  · have hc : x ≤ nI 4 := hc
    obtain ⟨k, hk, rfl⟩ : ∃ k, k ≤ 4 ∧ x = nI k := nI_of2 (M := nI 4) (nI_toInt (by decide)) hnn hc
    have q0 := hw.th 0
    iterate 4 refine hV.go rfl ?_
    refine topI (V := V) (show (wI w 30 0 0 0).1 30 0 0 = 0 from wI_eq) ?_
    refine hV.go rfl ?_
    refine And.intro (fun _ => ?_) (fun hc => absurd (show (0 : Int32) ≤ 0 by decide) hc)
    have fin : ∀ z y, Sm [37] (wI w 30 0 0 0) z → WT (mvs A.2.1) A.2.2.1 k y → po (some (vI y)) z := fun z y hz hy => h1 k hk rfl z y hy (q0.wk (hz.mono (by decide))) (by rw [(hz 30 (by decide)).1]; exact wI_eq) ((Sm.wI (k := 30) Sm.rf (by decide)).tr (hz.mono (by decide)))
    have pw : ∀ i, i ≤ 4 → (mvs A.2.1).length ^ i ≤ 10000 := fun i hi => by
      have h1 : (mvs A.2.1).length ^ i ≤ 10 ^ i := Nat.pow_le_pow_left (by omega) i
      have h2 : 10 ^ i ≤ 10 ^ 4 := Nat.pow_le_pow_right (by decide) hi
      omega
    have outer : ∀ c i : Nat, i + c = k + 1 → ∀ (z : Wd) (x4 : Option AV), Sm [37] (wI w 30 0 0 0) z → (∀ d, d < i → ¬ Rn (mvs A.2.1) d A.2.2.1) → V 31 [some (vR 30), some (vI (nI k)), some (vI (nI ((mvs A.2.1).length ^ i))), some (vI (nI i)), x4] [] z 0 := by
      intro c
      induction c with
      | zero =>
        intro i hi z x4 hz hno
        iterate 3 refine hV.go rfl ?_
        refine And.intro (fun _ => ?_) (fun hc => absurd (show nI k < nI i from nI_lt (by omega) (by omega)) hc)
        repeat refine hV.go rfl ?_
        exact ⟨fin z (-1) hz (Or.inr ⟨fun d hd hD => hno d (by omega) hD.1, rfl⟩), Nat.le_refl _⟩
      | succ c ih =>
        intro i hi z x4 hz hno
        have hpw := pw i (by omega)
        iterate 3 refine hV.go rfl ?_
        refine And.intro (fun hc => ?_) (fun _ => ?_)
        · have hc : nI k < nI i := hc
          rw [nI_ltI (by omega) (by omega)] at hc
          omega
        have inner : ∀ c2 j : Nat, j + c2 = (mvs A.2.1).length ^ i → ∀ y, Sm [37] (wI w 30 0 0 0) y → (∀ q, q < j → apS (mvs A.2.1) i q A.2.2.1 ≠ idp) → V 39 [some (vR 30), some (vI (nI k)), some (vI (nI ((mvs A.2.1).length ^ i))), some (vI (nI i)), some (vI (nI j))] [] y 0 := by
          intro c2
          induction c2 with
          | zero =>
            intro j hj y hy hq
            iterate 3 refine hV.go rfl ?_
            refine And.intro (fun _ => ?_) (fun hc => absurd (show nI ((mvs A.2.1).length ^ i) ≤ nI j from nI_le (by omega) (by omega)) hc)
            iterate 3 refine hV.go rfl ?_
            refine topI (V := V) (nI_mul _ 2) ?_
            iterate 2 refine hV.go rfl ?_
            refine topI (V := V) (show y.1 30 0 2 = nI A.2.1.length by rw [(hy 30 (by decide)).1]; exact q0.1.2.2.2.2.1) ?_
            refine hV.go rfl ?_
            refine topI (V := V) (nI_mul _ _) ?_
            iterate 3 refine hV.go rfl ?_
            have := ih (i + 1) (by omega) y (some (vI (nI j))) hy (fun d hd hR => by
              by_cases e : d < i
              · exact hno d e hR
              · have : d = i := by omega
                subst this
                obtain ⟨q, h1, h2⟩ := (apS_rn hsym d A.2.2.1).mpr hR
                exact hq q (by omega) h2)
            rw [Nat.pow_succ, show (mvs A.2.1).length ^ i * (mvs A.2.1).length = (mvs A.2.1).length ^ i * 2 * A.2.1.length by rw [Nat.mul_assoc, ← hlen], ← nI_inc i] at this
            exact this
          | succ c2 ih2 =>
            intro j hj y hy hq
            iterate 3 refine hV.go rfl ?_
            refine And.intro (fun hc => ?_) (fun _ => ?_)
            · have hc : nI ((mvs A.2.1).length ^ i) ≤ nI j := hc
              rw [nI_leI (by omega) (by omega)] at hc
              omega
            iterate 4 refine hV.go rfl ?_
            refine And.intro (callP_r (m_solves (n := i) (c0 := j) (po := fun v y2 => v = some (vI (b2i (cd (apS (mvs A.2.1) i j A.2.2.1 = idp)))) ∧ Sm [37] y y2) G (q0.wk (hy.mono (by decide))) (by omega) (by omega) (fun y2 a => ⟨rfl, a⟩)) (by decide) (by decide) (fun r y2 hp => ?_)) trivial
            obtain ⟨rfl, hy2⟩ := hp
            refine hV.go rfl ?_
            refine And.intro (fun hc => ?_) (fun hc => ?_)
            · have hc := cd_f.mp (b2i_eq.mp hc)
              iterate 2 refine hV.go rfl ?_
              have := ih2 (j + 1) (by omega) y2 (hy.tr hy2) (fun q hq' => by
                by_cases e : q = j
                · rw [e]
                  exact hc
                · exact hq q (by omega))
              rw [← nI_inc j] at this
              exact this
            · have hc := cd_t.mp (b2i_ne.mp hc)
              repeat refine hV.go rfl ?_
              exact ⟨fin y2 (nI i) (hy.tr hy2) (Or.inl ⟨i, by omega, ⟨(apS_rn hsym i A.2.2.1).mp ⟨j, by omega, hc⟩, hno⟩, rfl⟩), Nat.le_refl _⟩
        iterate 2 refine hV.go rfl ?_
        exact inner ((mvs A.2.1).length ^ i) 0 (by omega) z hz (fun q hq => by omega)
    iterate 4 refine hV.go rfl ?_
    exact outer (k + 1) 0 (by omega) _ none Sm.rf (fun d hd => by omega)
  · have hc : ¬ x ≤ nI 4 := hc
    refine bad (Or.inr ?_)
    obtain ⟨j, hj, rfl⟩ := nI_of hnn
    rw [nI_leI (by omega) (by decide)] at hc
    exact nI_le (by omega) hj
end
