/-! the reference: block -/
theorem sh31 : ∀ j : Fin 32, ((nI j.val &&& 31).toBitVec.smod 32).toNat = j.val := by decide +kernel
theorem sbit {k j : Nat} (hk : k < 65536) (hj : j < 16) : (nI k >>> (nI j &&& 31)) &&& 1 = b2i (k.testBit j) := by
  rw [pk_shrN (by omega) _ j (sh31 ⟨j, by omega⟩)]
  show nI _ &&& nI 1 = _
  rw [nx_and, Nat.and_one_is_mod, Nat.testBit_eq_decide_div_mod_eq]
  rcases Nat.mod_two_eq_zero_or_one (k / 2 ^ j) with h | h <;> rw [h] <;> rfl
theorem rem12 : ∀ i, i < 60 → nI i - nI i / 12 * 12 = nI (i % 12) := by decide +kernel
def GrW (w : Wd) (g : Nat → Nat) : Prop := ∀ p, p < 12 → w.1 43 0 p = nI (g p) ∧ g p < 12
theorem MT.fl {w : Wd} {ts : List (Nat → Nat)} (h : MT w ts) {i : Nat} {t : Nat → Nat} (ht : ts[i / 12]? = some t) : w.1 31 0 i = nI (t (i % 12)) := by
  have := (h (i / 12) t ht (i % 12) (by omega)).1
  rwa [show 12 * (i / 12) + i % 12 = i by omega] at this
section
variable {l : Launch} {E : En}
theorem m_join {w : Wd} {g : Nat → Nat} {a b : Nat} {po : Option AV → Wd → Prop} (G : GM l E) (hg : GrW w g) (ha : a < 12) (hb : b < 12) (hpo : ∀ u, GrW u (fun p => if g p = b then a else g p) → Sm [43] w u → po none u) : Ctr l E 1 0 mX5_join [vR 30, vI (nI a), vI (nI b)] w po noX := by
  refine Ctr.of (tw := []) G.1 G.2 oX5_ok pgX5_join rfl (by decide) rfl rfl (Nat.le_of_ble_eq_true rfl) ?_
  intro V hV
  have loop : ∀ c i : Nat, i + c = 12 → ∀ u, Sm [43] w u → (∀ p, p < 12 → u.1 43 0 p = nI (if p < i then (if g p = b then a else g p) else g p)) → V 2 [some (vR 30), some (vI (nI a)), some (vI (nI b)), some (vI (nI i))] [] u 0 := by
    intro c
    induction c with
    | zero =>
      intro i hi u hs hu
      iterate 3 refine hV.go rfl ?_
      refine And.intro (fun _ => ?_) (fun hc => absurd (show nI 12 ≤ nI i from nI_le (by omega) (by omega)) hc)
      refine hV.go rfl ?_
      refine ⟨hpo u (fun p hp => ⟨?_, ?_⟩) hs, Nat.le_refl _⟩
      · rw [hu p hp, if_pos (by omega)]
      · show (if g p = b then a else g p) < 12
        split
        · exact ha
        · exact (hg p hp).2
    | succ c ih =>
      intro i hi u hs hu
      have hgi := (hg i (by omega)).2
      have hui : u.1 43 0 i = nI (g i) := by rw [hu i (by omega), if_neg (by omega)]
      iterate 3 refine hV.go rfl ?_
      refine And.intro (fun hc => ?_) (fun _ => ?_)
      · have hc : nI 12 ≤ nI i := hc
        rw [nI_leI (by omega) (by omega)] at hc
        omega
      have sto : ∀ v, v = (if g i = b then a else g i) → V 33 [some (vR 30), some (vI (nI a)), some (vI (nI b)), some (vI (nI i))] [vI (nI v), vI (nI i), vR 43] u 0 := by
        intro v hv
        refine hV.go rfl ?_
        refine Exists.intro i (And.intro rfl (And.intro (show i < 12 by omega) ?_))
        iterate 2 refine hV.go rfl ?_
        have := ih (i + 1) (by omega) (wI u 43 0 i (nI v)) (Sm.wI (k := 43) hs (by decide)) (fun p hp => by
          by_cases e : p = i
          · rw [e, wI_eq, if_pos (by omega), hv]
          · rw [wI_ne (by omega), hu p hp]
            by_cases q : p < i
            · rw [if_pos q, if_pos (show p < i + 1 by omega)]
            · rw [if_neg q, if_neg (show ¬ p < i + 1 by omega)])
        rw [← nI_inc i] at this
        exact this
      iterate 7 refine hV.go rfl ?_
      refine Exists.intro i (And.intro rfl (And.intro (show i < 12 by omega) ?_))
      refine topI (V := V) hui ?_
      iterate 2 refine hV.go rfl ?_
      refine And.intro (fun hc => ?_) (fun hc => ?_)
      · have hc : ¬ nI (g i) = nI b := hc
        rw [nI_eq (by omega) (by omega)] at hc
        iterate 4 refine hV.go rfl ?_
        refine Exists.intro i (And.intro rfl (And.intro (show i < 12 by omega) ?_))
        refine topI (V := V) hui ?_
        exact sto _ (by rw [if_neg hc])
      · have hc : nI (g i) = nI b := Classical.not_not.mp hc
        rw [nI_eq (by omega) (by omega)] at hc
        iterate 2 refine hV.go rfl ?_
        exact sto _ (by rw [if_pos hc])
  iterate 2 refine hV.go rfl ?_
  exact loop 12 0 rfl w Sm.rf (fun p hp => by rw [if_neg (by omega)]; exact (hg p hp).1)
theorem m_block {w : Wd} {A : AS} {x y : Int32} {po : Option AV → Wd → Prop} (G : GM l E) (hw : QI w A) (h1 : ∀ j s, j < A.1 → s < A.1 → x = nI j → y = nI s → ∀ u r, BlkV A.2.1 j s r → QI u A → u.1 30 0 0 = 0 → Sm mdK w u → po (some (vI r)) u) (h2 : ((x < 0 ∨ nI A.1 ≤ x) ∨ (y < 0 ∨ nI A.1 ≤ y)) → ∀ u, QI u A → u.1 30 0 0 = 1 → Sm mdK w u → po (some (vI 0)) u) : Ctr l E 2 0 mX5_block [vR 30, vI x, vI y] w po noX := by
  refine Ctr.of (tw := []) G.1 G.2 oX5_ok pgX5_block rfl (by decide) rfl rfl (Nat.le_of_ble_eq_true rfl) ?_
  intro V hV
  obtain ⟨n1, n2, n3, n4, n5, n6, n7⟩ := id hw.1
  have bad : ((x < 0 ∨ nI A.1 ≤ x) ∨ (y < 0 ∨ nI A.1 ≤ y)) → V 21 [some (vR 30), some (vI x), some (vI y), none, none, none, none, none, none, none, none] [vR 30] w 0 := by
    intro hb
    iterate 4 refine hV.go rfl ?_
    refine topI (V := V) (show (wI w 30 0 0 1).1 30 0 0 = 1 from wI_eq) ?_
    refine hV.go rfl ?_
    refine And.intro (fun hc => absurd (show (1 : Int32) ≤ 0 from hc) (by decide)) (fun _ => ?_)
    repeat refine hV.go rfl ?_
    exact ⟨h2 hb _ (hw.th _) wI_eq (Sm.wI (k := 30) Sm.rf (by decide)), Nat.le_refl _⟩
  iterate 4 refine hV.go rfl ?_
  refine And.intro (callP_r (m_isPlace (po := fun v z => z = w ∧ ((v = some (vI 1) ∧ ∃ p, p < A.1 ∧ x = nI p) ∨ (v = some (vI 0) ∧ (x < 0 ∨ nI A.1 ≤ x)))) G n4 n1.2 (fun k hk e => ⟨rfl, Or.inl ⟨rfl, k, hk, e⟩⟩) (fun h => ⟨rfl, Or.inr ⟨rfl, h⟩⟩)) (by decide) (by decide) (fun v z hq => ?_)) trivial
  obtain ⟨rfl, ⟨rfl, j, hj, rfl⟩ | ⟨rfl, hb⟩⟩ := hq
  · refine hV.go rfl ?_
    refine And.intro (fun hc => absurd (show (1 : Int32) = 0 from hc) (by decide)) (fun _ => ?_)
    iterate 3 refine hV.go rfl ?_
    refine And.intro (callP_r (m_isPlace (po := fun v z' => z' = z ∧ ((v = some (vI 1) ∧ ∃ p, p < A.1 ∧ y = nI p) ∨ (v = some (vI 0) ∧ (y < 0 ∨ nI A.1 ≤ y)))) G n4 n1.2 (fun k hk e => ⟨rfl, Or.inl ⟨rfl, k, hk, e⟩⟩) (fun h => ⟨rfl, Or.inr ⟨rfl, h⟩⟩)) (by decide) (by decide) (fun v z' hq => ?_)) trivial
    obtain ⟨rfl, ⟨rfl, s, hs, rfl⟩ | ⟨rfl, hb⟩⟩ := hq
    · refine hV.go rfl ?_
      refine And.intro (fun hc => absurd (show (1 : Int32) = 0 from hc) (by decide)) (fun _ => ?_)
      iterate 5 refine hV.go rfl ?_
      refine topI (V := V) (show (wI z' 30 0 0 0).1 30 0 0 = 0 from wI_eq) ?_
      refine hV.go rfl ?_
      refine And.intro (fun _ => ?_) (fun hc => absurd (show (0 : Int32) ≤ 0 by decide) hc)
      have key : ∀ w0 : Wd, QI w0 A → w0.1 30 0 0 = 0 → Sm mdK z' w0 → V 34 [some (vR 30), some (vI (nI j)), some (vI (nI s)), none, none, none, none, none, none, none, none] [] w0 0 := by
        intro w0 q0 e0 s0
        have hmt : MT w0 A.2.1 := q0.mt
        have k1 : w0.1 30 0 1 = nI A.1 := q0.1.2.2.2.1
        have k2 : w0.1 30 0 2 = nI A.2.1.length := q0.1.2.2.2.2.1
        have hOJ : ∀ p, OJ A.2.1 j p → p < A.1 := by
          rintro p ⟨f, a, rfl⟩
          exact (a.lw n2.2).lt hj
        have ret : ∀ u r, BlkV A.2.1 j s r → Sm [43] w0 u → po (some (vI r)) u := fun u r hr hu => h1 j s hj hs rfl rfl u r hr (q0.wk (hu.mono (by decide))) (by rw [(hu 30 (by decide)).1]; exact e0) (s0.tr (hu.mono (by decide)))
        have final : ∀ (k : Nat) (x4 x5 : Int32) (x6 x7 x8 x9 x10 : Option AV), k < 2 ^ 12 → (∀ p, k.testBit p = true ↔ OJ A.2.1 j p) → V 103 [some (vR 30), some (vI (nI j)), some (vI (nI s)), some (vI (nI k)), some (vI x4), some (vI x5), x6, x7, x8, x9, x10] [] w0 0 := by
          intro k x4 x5 x6 x7 x8 x9 x10 hk hko
          iterate 5 refine hV.go rfl ?_
          refine topI (V := V) (sbit (k := k) (j := s) (by omega) (by omega)) ?_
          refine hV.go rfl ?_
          refine And.intro (fun hc => ?_) (fun hc => ?_)
          · have hb : k.testBit s = true := b2i_ne.mp hc
            have hkj : k.testBit j = true := (hko j).mpr (OJ.rf _ _)
            obtain ⟨t1, t2, t3⟩ := tzn_spec (show j < 12 by omega) hkj
            generalize hbb : tzn k = b at t1 t2 t3
            have hbn : b < A.1 := hOJ b ((hko b).mp t2)
            have hbj : b ≤ j := t3 j hkj
            have fin2 : ∀ u g (x6 : Int32) (x7 x8 x9 x10 : Option AV), Sm [43] w0 u → GrW u g → BE A.1 A.2.1 j b g → V 311 [some (vR 30), some (vI (nI j)), some (vI (nI s)), some (vI (nI k)), some (vI x4), some (vI (nI b)), some (vI x6), x7, x8, x9, x10] [] u 0 := by
              intro u g x6 x7 x8 x9 x10 hu hg hE
              iterate 4 refine hV.go rfl ?_
              refine Exists.intro s (And.intro rfl (And.intro (show s < 12 by omega) ?_))
              refine topI (V := V) (hg s (by omega)).1 ?_
              refine hV.go rfl ?_
              exact ⟨ret u _ (Or.inr ⟨(hko s).mp hb, b, g s, ⟨(hko b).mp t2, fun p hp => t3 p ((hko p).mpr hp)⟩, hE.least n1.2 hj hbn n2.2 (by omega), rfl⟩) hu, Nat.le_refl _⟩
            have rounds : ∀ c u g (x7 x8 x9 x10 : Option AV), ncl g < c → Sm [43] w0 u → GrW u g → BI A.1 A.2.1 j b g → g j = g b → V 170 [some (vR 30), some (vI (nI j)), some (vI (nI s)), some (vI (nI k)), some (vI x4), some (vI (nI b)), some (vI 1), x7, x8, x9, x10] [] u 0 := by
              intro c
              induction c with
              | zero =>
                intro u g x7 x8 x9 x10 hc
                omega
              | succ c ihc =>
                intro u0 g x7 x8 x9 x10 hlt hu0 hg0 hB0 hj0
                iterate 2 refine hV.go rfl ?_
                refine And.intro (fun hc => absurd (show (1 : Int32) = 0 from hc) (by decide)) (fun _ => ?_)
                have tl : ∀ ct i : Nat, i + ct = A.2.1.length → ∀ u g' ch (x8 x9 x10 : Option AV), Sm [43] w0 u → GrW u g' → BI A.1 A.2.1 j b g' → g' j = g' b → ((ch = false ∧ g' = g ∧ ∀ i' t p, i' < i → A.2.1[i']? = some t → p < 12 → g (t p) = g (t (g p))) ∨ (ch = true ∧ ncl g' < ncl g)) → V 181 [some (vR 30), some (vI (nI j)), some (vI (nI s)), some (vI (nI k)), some (vI x4), some (vI (nI b)), some (vI (b2i ch)), some (vI (nI i)), x8, x9, x10] [] u 0 := by
                  intro ct
                  induction ct with
                  | zero =>
                    intro i hi u g' ch x8 x9 x10 hu hg hB hjb hor
                    iterate 3 refine hV.go rfl ?_
                    refine topI (V := V) (show u.1 30 0 2 = nI A.2.1.length by rw [(hu 30 (by decide)).1]; exact k2) ?_
                    refine hV.go rfl ?_
                    refine And.intro (fun _ => ?_) (fun hc => absurd (show nI A.2.1.length ≤ nI i from nI_le (by omega) (by omega)) hc)
                    refine hV.go rfl ?_
                    rcases hor with ⟨rfl, rfl, hall⟩ | ⟨rfl, hl⟩
                    · iterate 2 refine hV.go rfl ?_
                      refine And.intro (fun _ => ?_) (fun hc => absurd rfl hc)
                      refine fin2 u g' _ _ _ _ _ hu hg ⟨hB, hjb, fun t ht p hp => ?_⟩
                      obtain ⟨i', hi'⟩ := List.getElem?_of_mem ht
                      exact hall i' t p (by have := (List.getElem?_eq_some_iff.mp hi').1; omega) hi' (by omega)
                    · exact ihc u g' _ _ _ _ (by omega) hu hg hB hjb
                  | succ ct iht =>
                    intro i hi u g' ch x8 x9 x10 hu hg hB hjb hor
                    have ht : A.2.1[i]? = some A.2.1[i] := List.getElem?_eq_getElem (by omega)
                    have htm := List.mem_of_getElem? ht
                    generalize htt : A.2.1[i] = t at ht htm
                    have hL := n2.2 t htm
                    iterate 3 refine hV.go rfl ?_
                    refine topI (V := V) (show u.1 30 0 2 = nI A.2.1.length by rw [(hu 30 (by decide)).1]; exact k2) ?_
                    refine hV.go rfl ?_
                    refine And.intro (fun hc => ?_) (fun _ => ?_)
                    · have hc : nI A.2.1.length ≤ nI i := hc
                      rw [nI_leI (by omega) (by omega)] at hc
                      omega
                    have pl : ∀ cp p : Nat, p + cp = 12 → ∀ u g' ch (x9 x10 : Option AV), Sm [43] w0 u → GrW u g' → BI A.1 A.2.1 j b g' → g' j = g' b → ((ch = false ∧ g' = g ∧ (∀ i' t p, i' < i → A.2.1[i']? = some t → p < 12 → g (t p) = g (t (g p))) ∧ ∀ q, q < p → g (t q) = g (t (g q))) ∨ (ch = true ∧ ncl g' < ncl g)) → V 193 [some (vR 30), some (vI (nI j)), some (vI (nI s)), some (vI (nI k)), some (vI x4), some (vI (nI b)), some (vI (b2i ch)), some (vI (nI i)), some (vI (nI p)), x9, x10] [] u 0 := by
                      intro cp
                      induction cp with
                      | zero =>
                        intro p hp u g' ch x9 x10 hu hg hB hjb hor
                        iterate 3 refine hV.go rfl ?_
                        refine And.intro (fun _ => ?_) (fun hc => absurd (show nI 12 ≤ nI p from nI_le (by omega) (by omega)) hc)
                        iterate 2 refine hV.go rfl ?_
                        have := iht (i + 1) (by omega) u g' ch (some (vI (nI p))) x9 x10 hu hg hB hjb (by
                          rcases hor with ⟨a1, a2, a3, a4⟩ | h
                          · refine Or.inl ⟨a1, a2, fun i' t' q hi' ht' hq => ?_⟩
                            by_cases e : i' = i
                            · subst e
                              rw [ht] at ht'
                              cases ht'
                              exact a4 q (by omega)
                            · exact a3 i' t' q (by omega) ht' hq
                          · exact Or.inr h)
                        rw [← nI_inc i] at this
                        exact this
                      | succ cp ihp =>
                        intro p hp u g' ch x9 x10 hu hg hB hjb hor
                        have hgp := hg p (by omega)
                        have htp : t p < 12 := hL.1.1 p (by omega)
                        have htg : t (g' p) < 12 := hL.1.1 (g' p) hgp.2
                        have hga := hg (t p) htp
                        have hgb := hg (t (g' p)) htg
                        have hmu : MT u A.2.1 := hmt.cg (hu 31 (by decide)).1
                        iterate 3 refine hV.go rfl ?_
                        refine And.intro (fun hc => ?_) (fun _ => ?_)
                        · have hc : nI 12 ≤ nI p := hc
                          rw [nI_leI (by omega) (by omega)] at hc
                          omega
                        iterate 7 refine hV.go rfl ?_
                        refine topI (V := V) (nI_mul 12 i) ?_
                        iterate 2 refine hV.go rfl ?_
                        refine topI (V := V) (nI_add _ _) ?_
                        refine hV.go rfl ?_
                        refine Exists.intro (12 * i + p) (And.intro rfl (And.intro (show 12 * i + p < 120 by omega) ?_))
                        refine topI (V := V) (hmu i t ht p (by omega)).1 ?_
                        refine hV.go rfl ?_
                        refine Exists.intro (t p) (And.intro rfl (And.intro htp ?_))
                        refine topI (V := V) hga.1 ?_
                        iterate 8 refine hV.go rfl ?_
                        refine topI (V := V) (nI_mul 12 i) ?_
                        iterate 4 refine hV.go rfl ?_
                        refine Exists.intro p (And.intro rfl (And.intro (show p < 12 by omega) ?_))
                        refine topI (V := V) hgp.1 ?_
                        refine hV.go rfl ?_
                        refine topI (V := V) (nI_add _ _) ?_
                        refine hV.go rfl ?_
                        refine Exists.intro (12 * i + g' p) (And.intro rfl (And.intro (show 12 * i + g' p < 120 by omega) ?_))
                        refine topI (V := V) (hmu i t ht (g' p) hgp.2).1 ?_
                        refine hV.go rfl ?_
                        refine Exists.intro (t (g' p)) (And.intro rfl (And.intro htg ?_))
                        refine topI (V := V) hgb.1 ?_
                        have rest : ∀ ch', ch' = (ch || decide (g' (t p) ≠ g' (t (g' p)))) → V 264 [some (vR 30), some (vI (nI j)), some (vI (nI s)), some (vI (nI k)), some (vI x4), some (vI (nI b)), some (vI (b2i ch')), some (vI (nI i)), some (vI (nI p)), some (vI (nI (g' (t p)))), some (vI (nI (g' (t (g' p)))))] [] u 0 := by
                          intro ch' hch
                          have jn : V 293 [some (vR 30), some (vI (nI j)), some (vI (nI s)), some (vI (nI k)), some (vI x4), some (vI (nI b)), some (vI (b2i ch')), some (vI (nI i)), some (vI (nI p)), some (vI (nI (g' (t p)))), some (vI (nI (g' (t (g' p)))))] [vI (nI (max (g' (t p)) (g' (t (g' p))))), vI (nI (min (g' (t p)) (g' (t (g' p))))), vR 30] u 0 := by
                            refine hV.go rfl ?_
                            refine And.intro (callP_r (m_join (po := fun v z => v = none ∧ GrW z (uni g' (t p) (t (g' p))) ∧ Sm [43] u z) G hg (by omega) (by omega) (fun z a b => ⟨rfl, a, b⟩)) (by decide) (by decide) (fun r z hq => ?_)) trivial
                            obtain ⟨rfl, hz1, hz2⟩ := hq
                            iterate 2 refine hV.go rfl ?_
                            have hBu : BI A.1 A.2.1 j b (uni g' (t p) (t (g' p))) := by
                              by_cases e : g' (t p) = g' (t (g' p))
                              · rw [uni_same e]
                                exact hB
                              · have hpn : p < A.1 := by
                                  by_cases q : p < A.1
                                  · exact q
                                  · exact (e (by rw [hB.2.1 p (by omega) (by omega)])).elim
                                have hgl : g' p < A.1 := by have := (hB.1 p (by omega)).1; omega
                                exact hB.un (hL.lt hpn) (hL.lt hgl) n1.2 ((hB.2.2 p (by omega)).go htm)
                            have := ihp (p + 1) (by omega) z (uni g' (t p) (t (g' p))) ch' (some (vI (nI (g' (t p))))) (some (vI (nI (g' (t (g' p)))))) (hu.tr hz2) hz1 hBu (uni_keep hjb) (by
                              rw [hch]
                              by_cases e : g' (t p) = g' (t (g' p))
                              · rw [decide_eq_false (fun z => z e), Bool.or_false, uni_same e]
                                rcases hor with ⟨a1, rfl, a3, a4⟩ | h
                                · refine Or.inl ⟨a1, rfl, a3, fun q hq => ?_⟩
                                  by_cases eq : q = p
                                  · rw [eq]
                                    exact e
                                  · exact a4 q (by omega)
                                · exact Or.inr h
                              · rw [decide_eq_true e, Bool.or_true]
                                have hlt2 := ncl_lt hB htp htg e
                                rcases hor with ⟨a1, rfl, a3, a4⟩ | h
                                · exact Or.inr ⟨rfl, hlt2⟩
                                · exact Or.inr ⟨rfl, by omega⟩)
                            rw [← nI_inc p] at this
                            exact this
                          iterate 4 refine hV.go rfl ?_
                          refine And.intro (fun hc => ?_) (fun hc => ?_)
                          · have hc : nI (g' (t (g' p))) ≤ nI (g' (t p)) := hc
                            rw [nI_leI (by omega) (by omega)] at hc
                            rw [Nat.max_eq_left hc, Nat.min_eq_right hc] at jn
                            iterate 4 refine hV.go rfl ?_
                            refine And.intro (fun _ => ?_) (fun hc2 => absurd (show nI (g' (t (g' p))) ≤ nI (g' (t p)) from nI_le hc (by omega)) hc2)
                            refine hV.go rfl ?_
                            exact jn
                          · have hc : ¬ nI (g' (t (g' p))) ≤ nI (g' (t p)) := hc
                            rw [nI_leI (by omega) (by omega)] at hc
                            rw [Nat.max_eq_right (by omega), Nat.min_eq_left (by omega)] at jn
                            iterate 5 refine hV.go rfl ?_
                            refine And.intro (fun hc2 => ?_) (fun _ => ?_)
                            · have hc2 : nI (g' (t (g' p))) ≤ nI (g' (t p)) := hc2
                              rw [nI_leI (by omega) (by omega)] at hc2
                              omega
                            iterate 2 refine hV.go rfl ?_
                            exact jn
                        iterate 3 refine hV.go rfl ?_
                        refine And.intro (fun hc => ?_) (fun hc => ?_)
                        · have hch : ch = true := b2i_ne.mp hc
                          iterate 3 refine hV.go rfl ?_
                          exact rest true (by rw [hch]; rfl)
                        · have hch : ch = false := b2i_eq.mp (Classical.not_not.mp hc)
                          iterate 3 refine hV.go rfl ?_
                          refine And.intro (fun hc2 => ?_) (fun hc2 => ?_)
                          · have hc2 : nI (g' (t p)) = nI (g' (t (g' p))) := hc2
                            rw [nI_eq (by omega) (by omega)] at hc2
                            iterate 2 refine hV.go rfl ?_
                            exact rest false (by rw [hch, decide_eq_false (fun z => z hc2)]; rfl)
                          · have hc2 : ¬ nI (g' (t p)) = nI (g' (t (g' p))) := hc2
                            rw [nI_eq (by omega) (by omega)] at hc2
                            iterate 3 refine hV.go rfl ?_
                            exact rest true (by rw [hch, decide_eq_true hc2]; rfl)
                    iterate 2 refine hV.go rfl ?_
                    exact pl 12 0 rfl u g' ch x9 x10 hu hg hB hjb (by
                      rcases hor with ⟨a1, a2, a3⟩ | h
                      · exact Or.inl ⟨a1, a2, a3, fun q hq => by omega⟩
                      · exact Or.inr h)
                iterate 4 refine hV.go rfl ?_
                exact tl A.2.1.length 0 (by omega) u0 g false x8 x9 x10 hu0 hg0 hB0 hj0 (Or.inl ⟨rfl, rfl, fun i' t p hi' => by omega⟩)
            have glp : ∀ c i : Nat, i + c = 12 → ∀ u (x7 x8 x9 x10 : Option AV), Sm [43] w0 u → (∀ p, p < i → u.1 43 0 p = nI (uni idp j b p)) → V 134 [some (vR 30), some (vI (nI j)), some (vI (nI s)), some (vI (nI k)), some (vI x4), some (vI (nI b)), some (vI (nI i)), x7, x8, x9, x10] [] u 0 := by
              intro c
              induction c with
              | zero =>
                intro i hi u x7 x8 x9 x10 hu hz
                iterate 3 refine hV.go rfl ?_
                refine And.intro (fun _ => ?_) (fun hc => absurd (show nI 12 ≤ nI i from nI_le (by omega) (by omega)) hc)
                iterate 2 refine hV.go rfl ?_
                have hB := (BI.id A.1 A.2.1 j b).un hj hbn n1.2 Cg.ba
                exact rounds (ncl (uni idp j b) + 1) u (uni idp j b) x7 x8 x9 x10 (by omega) hu (fun p hp => ⟨hz p (by omega), by have := (hB.1 p hp).1; omega⟩) hB uni_tog
              | succ c ih =>
                intro i hi u x7 x8 x9 x10 hu hz
                have hud : uni idp j b i = if i = j then b else i := by
                  show (if i = max j b then min j b else i) = _
                  rw [Nat.max_eq_left hbj, Nat.min_eq_right hbj]
                iterate 3 refine hV.go rfl ?_
                refine And.intro (fun hc => ?_) (fun _ => ?_)
                · have hc : nI 12 ≤ nI i := hc
                  rw [nI_leI (by omega) (by omega)] at hc
                  omega
                have sto : ∀ v, v = uni idp j b i → V 160 [some (vR 30), some (vI (nI j)), some (vI (nI s)), some (vI (nI k)), some (vI x4), some (vI (nI b)), some (vI (nI i)), x7, x8, x9, x10] [vI (nI v), vI (nI i), vR 43] u 0 := by
                  intro v hv
                  refine hV.go rfl ?_
                  refine Exists.intro i (And.intro rfl (And.intro (show i < 12 by omega) ?_))
                  iterate 2 refine hV.go rfl ?_
                  have := ih (i + 1) (by omega) (wI u 43 0 i (nI v)) x7 x8 x9 x10 (Sm.wI (k := 43) hu (by decide)) (fun p hp => by
                    by_cases e : p = i
                    · rw [e, wI_eq, hv]
                    · rw [wI_ne (by omega)]
                      exact hz p (by omega))
                  rw [← nI_inc i] at this
                  exact this
                iterate 6 refine hV.go rfl ?_
                refine And.intro (fun hc => ?_) (fun hc => ?_)
                · have hc : ¬ nI i = nI j := hc
                  rw [nI_eq (by omega) (by omega)] at hc
                  refine hV.go rfl ?_
                  exact sto i (by rw [hud, if_neg hc])
                · have hc : nI i = nI j := Classical.not_not.mp hc
                  rw [nI_eq (by omega) (by omega)] at hc
                  iterate 2 refine hV.go rfl ?_
                  exact sto b (by rw [hud, if_pos hc])
            have low : ∀ c i : Nat, i + c = b → ∀ (x6 x7 x8 x9 x10 : Option AV), V 116 [some (vR 30), some (vI (nI j)), some (vI (nI s)), some (vI (nI k)), some (vI x4), some (vI (nI i)), x6, x7, x8, x9, x10] [] w0 0 := by
              intro c
              induction c with
              | zero =>
                intro i hi x6 x7 x8 x9 x10
                have : i = b := by omega
                subst this
                iterate 5 refine hV.go rfl ?_
                refine topI (V := V) (sbit (k := k) (j := i) (by omega) (by omega)) ?_
                refine hV.go rfl ?_
                rw [t2]
                refine And.intro (fun _ => ?_) (fun hc => absurd (show ¬ (1 : Int32) = 0 by decide) hc)
                iterate 2 refine hV.go rfl ?_
                exact glp 12 0 rfl w0 x7 x8 x9 x10 Sm.rf (fun p hp => by omega)
              | succ c ih =>
                intro i hi x6 x7 x8 x9 x10
                have hf : k.testBit i = false := by
                  cases hz : k.testBit i with
                  | false => rfl
                  | true =>
                    have := t3 i hz
                    omega
                iterate 5 refine hV.go rfl ?_
                refine topI (V := V) (sbit (k := k) (j := i) (by omega) (by omega)) ?_
                refine hV.go rfl ?_
                rw [hf]
                refine And.intro (fun hc => absurd rfl (show ¬ (0 : Int32) = 0 from hc)) (fun _ => ?_)
                iterate 2 refine hV.go rfl ?_
                have := ih (i + 1) (by omega) x6 x7 x8 x9 x10
                rw [← nI_inc i] at this
                exact this
            iterate 2 refine hV.go rfl ?_
            exact low b 0 (by omega) x6 x7 x8 x9 x10
          · have hb : k.testBit s = false := b2i_eq.mp (Classical.not_not.mp hc)
            repeat refine hV.go rfl ?_
            refine ⟨ret w0 (-1) (Or.inl ⟨fun h => ?_, rfl⟩) Sm.rf, Nat.le_refl _⟩
            rw [(hko s).mpr h] at hb
            cases hb
        have orb : ∀ c k old (x5 : Option AV) , 12 - bc k < c → k < 2 ^ 12 → k ≠ old → old < 2 ^ 12 → k.testBit j = true → (∀ p, k.testBit p = true → OJ A.2.1 j p) → V 41 [some (vR 30), some (vI (nI j)), some (vI (nI s)), some (vI (nI k)), some (vI (nI old)), x5, none, none, none, none, none] [] w0 0 := by
          intro c
          induction c with
          | zero =>
            intro k old x5 hc
            omega
          | succ c ihc =>
            intro k old x5 hc hk hne hold hkj hko
            iterate 3 refine hV.go rfl ?_
            refine And.intro (fun hc => ?_) (fun _ => ?_)
            · have hc : nI k = nI old := hc
              rw [nI_eq (by omega) (by omega)] at hc
              exact (hne hc).elim
            have inner : ∀ c2 i : Nat, i + c2 = 12 * A.2.1.length → ∀ k', k' < 2 ^ 12 → (∀ p, k.testBit p = true → k'.testBit p = true) → (∀ p, k'.testBit p = true → OJ A.2.1 j p) → (∀ i' t, i' < i → A.2.1[i' / 12]? = some t → k.testBit (i' % 12) = true → k'.testBit (t (i' % 12)) = true) → V 53 [some (vR 30), some (vI (nI j)), some (vI (nI s)), some (vI (nI k')), some (vI (nI k)), some (vI (nI i)), none, none, none, none, none] [] w0 0 := by
              intro c2
              induction c2 with
              | zero =>
                intro i hi k' hk' hsub ho hcl
                iterate 4 refine hV.go rfl ?_
                refine topI (V := V) k2 ?_
                refine hV.go rfl ?_
                refine topI (V := V) (nI_mul 12 _) ?_
                refine hV.go rfl ?_
                refine And.intro (fun _ => ?_) (fun hc => absurd (show nI (12 * A.2.1.length) ≤ nI i from nI_le (by omega) (by omega)) hc)
                refine hV.go rfl ?_
                by_cases e : k' = k
                · subst e
                  iterate 3 refine hV.go rfl ?_
                  refine And.intro (fun _ => ?_) (fun hc => absurd rfl hc)
                  refine final k' _ _ none none none none none hk' (fun p => ⟨ho p, fun hp => hp.of (fun t hT q hq => ?_) hkj⟩)
                  obtain ⟨a, ha⟩ := List.getElem?_of_mem hT
                  have hal := (List.getElem?_eq_some_iff.mp ha).1
                  have hq12 := tb_lt hk' hq
                  have := hcl (12 * a + q) t (by omega) (by rw [show (12 * a + q) / 12 = a by omega]; exact ha)
                  rw [show (12 * a + q) % 12 = q by omega] at this
                  exact this hq
                · have hbl := bc_lt hsub (fun p hp => tb_lt hk' hp) e
                  have hb12 : bc k' ≤ 12 := bc_le (fun p hp => tb_lt hk' hp)
                  exact ihc k' k _ (by omega) hk' e hk (hsub j hkj) ho
              | succ c2 ih2 =>
                intro i hi k' hk' hsub ho hcl
                have hil : i / 12 < A.2.1.length := by omega
                have ht : A.2.1[i / 12]? = some A.2.1[i / 12] := List.getElem?_eq_getElem hil
                have htm := List.mem_of_getElem? ht
                generalize htt : A.2.1[i / 12] = t at ht htm
                have hL := n2.2 t htm
                have ht12 : t (i % 12) < 12 := hL.1.1 (i % 12) (by omega)
                iterate 4 refine hV.go rfl ?_
                refine topI (V := V) k2 ?_
                refine hV.go rfl ?_
                refine topI (V := V) (nI_mul 12 _) ?_
                refine hV.go rfl ?_
                refine And.intro (fun hc => ?_) (fun _ => ?_)
                · have hc : nI (12 * A.2.1.length) ≤ nI i := hc
                  rw [nI_leI (by omega) (by omega)] at hc
                  omega
                iterate 4 refine hV.go rfl ?_
                refine And.intro (by decide) ?_
                refine topI (V := V) (rem12 i (by omega)) ?_
                iterate 3 refine hV.go rfl ?_
                refine topI (V := V) (sbit (k := k') (j := i % 12) (by omega) (by omega)) ?_
                iterate 2 refine hV.go rfl ?_
                refine And.intro (fun hc => ?_) (fun hc => ?_)
                · have hf : k'.testBit (i % 12) = false := by
                    cases hz : k'.testBit (i % 12) with
                    | false => rfl
                    | true =>
                      rw [hz] at hc
                      exact absurd rfl (show ¬ (1 : Int32) = 1 from hc)
                  iterate 4 refine hV.go rfl ?_
                  have := ih2 (i + 1) (by omega) k' hk' hsub ho (fun i' t' hi' ht' hb => by
                    by_cases e : i' = i
                    · subst e
                      rw [hsub _ hb] at hf
                      cases hf
                    · exact hcl i' t' (by omega) ht' hb)
                  rw [← nI_inc i] at this
                  exact this
                · have hb : k'.testBit (i % 12) = true := by
                    cases hz : k'.testBit (i % 12) with
                    | true => rfl
                    | false =>
                      rw [hz] at hc
                      exact absurd (show ¬ (0 : Int32) = 1 by decide) hc
                  iterate 6 refine hV.go rfl ?_
                  refine Exists.intro i (And.intro rfl (And.intro (show i < 120 by omega) ?_))
                  refine topI (V := V) (hmt.fl ht) ?_
                  refine hV.go rfl ?_
                  refine topI (V := V) (shl1 _ ht12) ?_
                  refine hV.go rfl ?_
                  refine topI (V := V) (fa_or _ _) ?_
                  iterate 4 refine hV.go rfl ?_
                  have hk2 : k' ||| 2 ^ t (i % 12) < 2 ^ 12 := Nat.or_lt_two_pow hk' (Nat.pow_lt_pow_right (by decide) ht12)
                  have := ih2 (i + 1) (by omega) (k' ||| 2 ^ t (i % 12)) hk2 (fun p hp => tb_or.mpr (Or.inl (hsub p hp))) (fun p hp => by
                    rcases tb_or.mp hp with hp | rfl
                    · exact ho p hp
                    · exact (ho _ hb).step htm) (fun i' t' hi' ht' hb' => by
                    by_cases e : i' = i
                    · subst e
                      rw [ht] at ht'
                      cases ht'
                      exact tb_or.mpr (Or.inr rfl)
                    · exact tb_or.mpr (Or.inl (hcl i' t' (by omega) ht' hb')))
                  rw [← nI_inc i] at this
                  exact this
            iterate 4 refine hV.go rfl ?_
            exact inner (12 * A.2.1.length) 0 (by omega) k hk (fun p hp => hp) hko (fun i' t hi' => by omega)
        have h2j : (2 : Nat) ^ j < 2 ^ 12 := Nat.pow_lt_pow_right (by decide) (by omega)
        iterate 3 refine hV.go rfl ?_
        refine topI (V := V) (shl1 j (by omega)) ?_
        iterate 3 refine hV.go rfl ?_
        exact orb 13 (2 ^ j) 0 none (by omega) h2j (Nat.pos_iff_ne_zero.mp (Nat.two_pow_pos j)) (by decide) (by rw [Nat.testBit_two_pow, decide_eq_true_iff]) (fun p hp => by
          rw [Nat.testBit_two_pow, decide_eq_true_iff] at hp
          rw [← hp]
          exact OJ.rf _ _)
      exact key _ (hw.th 0) wI_eq (Sm.wI (k := 30) Sm.rf (by decide))
    · refine hV.go rfl ?_
      refine And.intro (fun _ => bad (Or.inr hb)) (fun hc => absurd rfl hc)
  · refine hV.go rfl ?_
    refine And.intro (fun _ => bad (Or.inl hb)) (fun hc => absurd rfl hc)
end
