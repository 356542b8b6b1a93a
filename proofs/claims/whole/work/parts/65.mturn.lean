/-! the reference: turn -/
section
variable {l : Launch} {E : En}
theorem m_turn {w : Wd} {A : AS} {po : Option AV → Wd → Prop} (G : GM l E) (hw : QI w A)
    (h1 : (rdA A.2.2.2.1).1 ≠ 1 → ∀ u, QI u A → u.1 30 0 0 = 1 → Sm mdK w u → po (some (vI 0)) u)
    (h2 : (rdA A.2.2.2.1).1 = 1 → (¬ ∀ x ∈ (rdA A.2.2.2.1).2.1, x.1 < A.1) → ∀ u, QI u A → u.1 30 0 0 = 2 → Sm mdK w u → po (some (vI 0)) u)
    (h3 : (rdA A.2.2.2.1).1 = 1 → (∀ x ∈ (rdA A.2.2.2.1).2.1, x.1 < A.1) → ¬ ndN (rdA A.2.2.2.1).2.1 → ∀ u, QI u A → u.1 30 0 0 = 3 → Sm mdK w u → po (some (vI 0)) u)
    (h4 : (rdA A.2.2.2.1).1 = 1 → (∀ x ∈ (rdA A.2.2.2.1).2.1, x.1 < A.1) → ndN (rdA A.2.2.2.1).2.1 → A.2.1.length = 5 → ∀ u, QI u A → u.1 30 0 0 = 4 → Sm mdK w u → po (some (vI 0)) u)
    (h5 : (rdA A.2.2.2.1).1 = 1 → (∀ x ∈ (rdA A.2.2.2.1).2.1, x.1 < A.1) → ndN (rdA A.2.2.2.1).2.1 → A.2.1.length < 5 → ∀ u, QI u (A.1, A.2.1 ++ [pR (rdA A.2.2.2.1).2.1 (rdA A.2.2.2.1).2.1.length], A.2.2.1, A.2.2.2.1, A.2.2.2.2) → u.1 30 0 0 = 0 → Sm mdK w u → po (some (vI (nI A.2.1.length))) u) :
    Ctr l E 3 0 mX5_turn [vR 30] w po noX := by
  refine Ctr.of (tw := []) G.1 G.2 oX5_ok pgX5_turn rfl (by decide) rfl rfl (Nat.le_of_ble_eq_true rfl) ?_
  intro V hV
  obtain ⟨n1, n2, n3, n4, n5, n6, n7⟩ := id hw.1
  -- a code above 0
  have bad : ∀ (u : Wd) (c : Nat), c < 5 → 0 < c → QI u A → Sm mdK w u → u.1 30 0 0 = nI c → (∀ u, QI u A → u.1 30 0 0 = nI c → Sm mdK w u → po (some (vI 0)) u) → V 35 [some (vR 30), none] [] u 0 := by
    intro u c hc hp hq hs h0 hpost
    iterate 2 refine hV.go rfl ?_
    refine topI (V := V) h0 ?_
    refine hV.go rfl ?_
    refine And.intro (fun hle => ?_) (fun _ => ?_)
    · have hle : nI c ≤ nI 0 := hle
      rw [nI_leI (by omega) (by decide)] at hle
      omega
    repeat refine hV.go rfl ?_
    exact ⟨hpost u hq h0 hs, Nat.le_refl _⟩
  have keepc : ∀ (u : Wd) (c : Nat), c < 5 → 0 < c → QI u A → Sm mdK w u → u.1 30 0 0 = nI c → (∀ u, QI u A → u.1 30 0 0 = nI c → Sm mdK w u → po (some (vI 0)) u) → V 8 [some (vR 30), none] [] u 0 := by
    intro u c hc hp hq hs h0 hpost
    iterate 3 refine hV.go rfl ?_
    refine topI (V := V) h0 ?_
    refine hV.go rfl ?_
    refine And.intro (fun _ => ?_) (fun hc2 => ?_)
    · iterate 2 refine hV.go rfl ?_
      refine topI (V := V) h0 ?_
      refine hV.go rfl ?_
      exact bad _ c hc hp (hq.th _) (hs.tr (Sm.wI (k := 30) Sm.rf (by decide))) wI_eq hpost
    · have hc2 : nI c = nI 0 := Classical.not_not.mp hc2
      rw [nI_eq (by omega) (by decide)] at hc2
      omega
  iterate 3 refine hV.go rfl ?_
  refine And.intro (callP_r (m_readCycles (po := fun v z => Sm [36] w z ∧ (((rdA A.2.2.2.1).1 ≠ 1 ∧ v = some (vI 1)) ∨ ((rdA A.2.2.2.1).1 = 1 ∧ ∃ code, v = some (vI (nI code)) ∧ KD A.1 (rdA A.2.2.2.1).2.1 code ∧ (code = 0 → ∀ p, p < 12 → z.1 36 0 p = nI (pR (rdA A.2.2.2.1).2.1 (rdA A.2.2.2.1).2.1.length p))))) G hw.2.1 n4 n1.2 (fun a u b => ⟨b, Or.inl ⟨a, rfl⟩⟩) (fun u code a b c d => ⟨d, Or.inr ⟨a, code, rfl, b, c⟩⟩)) (by decide) (by decide) (fun r u hp => ?_)) trivial
  obtain ⟨hs, ⟨hr, rfl⟩ | ⟨hr, code, rfl, hkd, hwk⟩⟩ := hp
  · have hqu : QI u A := hw.wk (hs.mono (by decide))
    refine hV.go rfl ?_
    exact keepc _ 1 (by decide) (by decide) (hqu.th _) ((hs.mono (by decide)).tr (Sm.wI (k := 30) Sm.rf (by decide))) wI_eq (h1 hr)
  · have hqu : QI u A := hw.wk (hs.mono (by decide))
    have smu : ∀ y, Sm mdK w (wI u 30 0 0 y) := fun y => (hs.mono (by decide)).tr (Sm.wI (k := 30) Sm.rf (by decide))
    refine hV.go rfl ?_
    rcases hkd with ⟨rfl, hk⟩ | ⟨rfl, hk1, hk2⟩ | ⟨rfl, hk1, hk2⟩
    · exact keepc _ 2 (by decide) (by decide) (hqu.th _) (smu _) wI_eq (h2 hr hk)
    · exact keepc _ 3 (by decide) (by decide) (hqu.th _) (smu _) wI_eq (h3 hr hk1 hk2)
    · have hq0 := hqu.th (nI 0)
      iterate 3 refine hV.go rfl ?_
      refine topI (V := V) (show (wI u 30 0 0 (nI 0)).1 30 0 0 = 0 from wI_eq) ?_
      refine hV.go rfl ?_
      refine And.intro (fun hc => absurd rfl (show ¬ (0 : Int32) = 0 from hc)) (fun _ => ?_)
      iterate 2 refine hV.go rfl ?_
      refine topI (V := V) (show (wI u 30 0 0 (nI 0)).1 30 0 2 = nI A.2.1.length from hq0.1.2.2.2.2.1) ?_
      iterate 2 refine hV.go rfl ?_
      refine And.intro (fun hc => ?_) (fun hc => ?_)
      rotate_left
      · have hc : nI A.2.1.length = nI 5 := Classical.not_not.mp hc
        rw [nI_eq (by omega) (by decide)] at hc
        iterate 3 refine hV.go rfl ?_
        exact bad _ 4 (by decide) (by decide) (hq0.th _) ((smu _).tr (Sm.wI (k := 30) Sm.rf (by decide))) wI_eq (h4 hr hk1 hk2 hc)
      have hc : ¬ nI A.2.1.length = nI 5 := hc
      rw [nI_eq (by omega) (by decide)] at hc
      have hT : A.2.1.length < 5 := by omega
      iterate 2 refine hV.go rfl ?_
      refine topI (V := V) (show (wI u 30 0 0 (nI 0)).1 30 0 0 = 0 from wI_eq) ?_
      refine hV.go rfl ?_
      have hH := rdA_H A.2.2.2.1
      have hf : Lw A.1 (pR (rdA A.2.2.2.1).2.1 (rdA A.2.2.2.1).2.1.length) := pR_Lw n1.2 hH.1 hk2 hk1
      generalize hff : pR (rdA A.2.2.2.1).2.1 (rdA A.2.2.2.1).2.1.length = f at hf hwk
      have key : ∀ w0 : Wd, QI w0 A → w0.1 30 0 0 = 0 → Sm mdK w w0 → (∀ p, p < 12 → w0.1 36 0 p = nI (f p)) → V 35 [some (vR 30), none] [] w0 0 := by
        intro w0 q0 e0 s0 hwk
        have t0 : w0.1 30 0 2 = nI A.2.1.length := q0.1.2.2.2.2.1
        have hmt : MT w0 A.2.1 := q0.mt
        iterate 2 refine hV.go rfl ?_
        refine topI (V := V) e0 ?_
        refine hV.go rfl ?_
        refine And.intro (fun _ => ?_) (fun hc => absurd (show (0 : Int32) ≤ 0 by decide) hc)
        have loop : ∀ c i : Nat, i + c = 12 → ∀ y, Sm [31] w0 y → (∀ a, (a < 12 * A.2.1.length ∨ (60 ≤ a ∧ a < 60 + 12 * A.2.1.length)) → y.1 31 0 a = w0.1 31 0 a) → (∀ p, p < i → y.1 31 0 (12 * A.2.1.length + p) = nI (f p) ∧ y.1 31 0 (60 + 12 * A.2.1.length + f p) = nI p) → V 46 [some (vR 30), some (vI (nI i))] [] y 0 := by
          intro c
          induction c with
          | zero =>
            intro i hi y hy ha hb
            have e30 := (hy 30 (by decide)).1
            iterate 3 refine hV.go rfl ?_
            refine And.intro (fun _ => ?_) (fun hc => absurd (show nI 12 ≤ nI i from nI_le (by omega) (by omega)) hc)
            iterate 3 refine hV.go rfl ?_
            refine topI (V := V) (show y.1 30 0 2 = nI A.2.1.length by rw [e30]; exact t0) ?_
            iterate 2 refine hV.go rfl ?_
            refine topI (V := V) (nI_1 _) ?_
            iterate 4 refine hV.go rfl ?_
            refine And.intro (Or.inl rfl) ?_
            iterate 2 refine hV.go rfl ?_
            refine topI (V := V) (show (wI (wI y 30 0 2 (nI (A.2.1.length + 1))) 30 0 7 0).1 30 0 2 = nI (A.2.1.length + 1) by rw [wI_ne (by decide), wI_eq]) ?_
            iterate 2 refine hV.go rfl ?_
            refine topI (V := V) (nI_pred _) ?_
            refine hV.go rfl ?_
            have g : ∀ j, j ≠ 2 → j ≠ 7 → (wI (wI y 30 0 2 (nI (A.2.1.length + 1))) 30 0 7 0).1 30 0 j = w0.1 30 0 j := fun j a b => by
              rw [wI_ne (by omega), wI_ne (by omega), e30]
            have s2 : Sm [30, 31] w0 (wI (wI y 30 0 2 (nI (A.2.1.length + 1))) 30 0 7 0) := Sm.wI (k := 30) (Sm.wI (k := 30) (hy.mono (by decide)) (by decide)) (by decide)
            have e31 : (wI (wI y 30 0 2 (nI (A.2.1.length + 1))) 30 0 7 0).1 31 = y.1 31 := by
              funext a b
              rw [wI_ne (by omega), wI_ne (by omega)]
            refine ⟨h5 hr hk1 hk2 hT _ ⟨⟨n1, ⟨?_, ?_⟩, n3, (g 1 (by decide) (by decide)).trans q0.1.2.2.2.1, ?_, ?_, ?_⟩, q0.2.1.cg (g 5 (by decide) (by decide)) (s2 33 (by decide)).1, q0.2.2.1.cg (g 16 (by decide) (by decide)) (s2 41 (by decide)).1, Or.inl wI_eq⟩ ((g 0 (by decide) (by decide)).trans e0) (s0.tr (s2.mono (by decide))), Nat.le_refl _⟩
            · show (A.2.1 ++ [_]).length ≤ 5
              rw [List.length_append, List.length_singleton]
              omega
            · intro t ht
              rcases List.mem_append.mp ht with ht | ht
              · exact n2.2 t ht
              · rw [List.mem_singleton.mp ht, hff]
                exact hf
            · show (wI (wI y 30 0 2 (nI (A.2.1.length + 1))) 30 0 7 0).1 30 0 2 = nI (A.2.1 ++ [_]).length
              rw [wI_ne (by decide), wI_eq, List.length_append]
              rfl
            · show MT (wI (wI y 30 0 2 (nI (A.2.1.length + 1))) 30 0 7 0) (A.2.1 ++ [_])
              intro j t ht p hp
              rw [e31]
              by_cases ej : j < A.2.1.length
              · rw [List.getElem?_append_left ej] at ht
                rw [ha (12 * j + p) (by omega), ha (60 + 12 * j + p) (by omega)]
                exact hmt j t ht p hp
              · rw [List.getElem?_append_right (by omega)] at ht
                have hb2 : j - A.2.1.length < 1 := (List.getElem?_eq_some_iff.mp ht).1
                rw [show j - A.2.1.length = 0 by omega] at ht
                have ht : pR (rdA A.2.2.2.1).2.1 (rdA A.2.2.2.1).2.1.length = t := Option.some.inj ht
                rw [hff] at ht
                subst ht
                rw [show j = A.2.1.length by omega]
                refine ⟨(hb p (by omega)).1, ?_⟩
                have hip : iv f p < 12 := hf.1.iv.1 p hp
                have := (hb (iv f p) (by omega)).2
                rw [hf.1.iv_r] at this
                exact this
            · intro s hs'
              exact (congrFun (congrFun (s2 32 (by decide)).1 0) s).trans (q0.1.2.2.2.2.2.2 s hs')
          | succ c ih =>
            intro i hi y hy ha hb
            have e30 := (hy 30 (by decide)).1
            have hfi : f i < 12 := hf.1.1 i (by omega)
            have wki : ∀ z, Sm [31] w0 z → z.1 36 0 i = nI (f i) := fun z hz => by rw [(hz 36 (by decide)).1]; exact hwk i (by omega)
            iterate 3 refine hV.go rfl ?_
            refine And.intro (fun hc => ?_) (fun _ => ?_)
            · have hc : nI 12 ≤ nI i := hc
              rw [nI_leI (by omega) (by omega)] at hc
              omega
            iterate 5 refine hV.go rfl ?_
            refine topI (V := V) (show y.1 30 0 2 = nI A.2.1.length by rw [e30]; exact t0) ?_
            refine hV.go rfl ?_
            refine topI (V := V) (nI_mul 12 _) ?_
            iterate 2 refine hV.go rfl ?_
            refine topI (V := V) (nI_add _ _) ?_
            iterate 4 refine hV.go rfl ?_
            refine Exists.intro i (And.intro rfl (And.intro (show i < 12 by omega) ?_))
            refine topI (V := V) (wki y hy) ?_
            refine hV.go rfl ?_
            refine Exists.intro (12 * A.2.1.length + i) (And.intro rfl (And.intro (show 12 * A.2.1.length + i < 120 by omega) ?_))
            have hy1 : Sm [31] w0 (wI y 31 0 (12 * A.2.1.length + i) (nI (f i))) := Sm.wI (k := 31) hy (by decide)
            iterate 6 refine hV.go rfl ?_
            refine topI (V := V) (show (wI y 31 0 (12 * A.2.1.length + i) (nI (f i))).1 30 0 2 = nI A.2.1.length by rw [wI_ne (by omega), e30]; exact t0) ?_
            refine hV.go rfl ?_
            refine topI (V := V) (nI_mul 12 _) ?_
            refine hV.go rfl ?_
            refine topI (V := V) (nI_add 60 _) ?_
            iterate 4 refine hV.go rfl ?_
            refine Exists.intro i (And.intro rfl (And.intro (show i < 12 by omega) ?_))
            refine topI (V := V) (wki _ hy1) ?_
            refine hV.go rfl ?_
            refine topI (V := V) (nI_add _ _) ?_
            iterate 2 refine hV.go rfl ?_
            refine Exists.intro (60 + 12 * A.2.1.length + f i) (And.intro rfl (And.intro (show 60 + 12 * A.2.1.length + f i < 120 by omega) ?_))
            iterate 2 refine hV.go rfl ?_
            have := ih (i + 1) (by omega) (wI (wI y 31 0 (12 * A.2.1.length + i) (nI (f i))) 31 0 (60 + 12 * A.2.1.length + f i) (nI i)) (Sm.wI (k := 31) hy1 (by decide)) (fun a h => by
              rw [wI_ne (by omega), wI_ne (by omega)]
              exact ha a h) (fun p hp => by
              by_cases e : p = i
              · subst e
                rw [wI_eq, wI_ne (by omega), wI_eq]
                exact ⟨rfl, rfl⟩
              · have hne : f p ≠ f i := fun z => e (hf.1.inj z)
                have hfp : f p < 12 := hf.1.1 p (by omega)
                rw [wI_ne (by omega), wI_ne (by omega), wI_ne (by omega), wI_ne (by omega)]
                exact hb p (by omega))
            rw [← nI_inc i] at this
            exact this
        iterate 2 refine hV.go rfl ?_
        exact loop 12 0 rfl w0 Sm.rf (fun _ _ => rfl) (fun p hp => by omega)
      refine key _ (hq0.th _) wI_eq ((smu _).tr (Sm.wI (k := 30) Sm.rf (by decide))) (fun p hp => ?_)
      rw [wI_ne (by omega), wI_ne (by omega)]
      exact hwk rfl p hp
end
