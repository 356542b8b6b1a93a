/-! a chain grows: the machine -/
theorem addM_W {w : Wd} {s : CS} {k : Nat} {m : Nat → Nat} (hw : ChW w s) (hlen : (cM s k).length < 16) : ChW (wI (wJ w 14 k (cM s k).length (rw m)) 21 0 k (nI ((cM s k).length + 1))) (addM s k m) := by
  intro j hj
  obtain ⟨h1, h2, h3, h4, h5, h6, h7⟩ := hw j hj
  unfold ChL
  simp only [addM_O, addM_T]
  rw [addM_M]
  by_cases e : j = k
  · subst e
    rw [if_pos rfl]
    refine ⟨h1, ?_, ?_, ?_, ?_, ?_, ?_⟩
    · simp only [List.length_append, List.length_cons, List.length_nil]; omega
    · simp only [wI_get, wJ_1]
      simpa using h3
    · simp [wI_get]
    · intro i p hip
      simp only [wI_get, wJ_1]
      simpa using h5 i p hip
    · intro i f hf
      simp only [wI_2, wJ_get]
      by_cases hi : i < (cM s j).length
      · rw [List.getElem?_append_left hi] at hf
        simp [show ¬ i = (cM s j).length by omega]
        exact h6 i f hf
      · rw [List.getElem?_append_right (by omega)] at hf
        have hi2 : i - (cM s j).length < 1 := (List.getElem?_eq_some_iff.mp hf).1
        have hi3 : i = (cM s j).length := by omega
        subst hi3
        simp at hf
        subst hf
        simp
    · intro p hp
      simp only [wI_2, wJ_get]
      simpa using h7 p hp
  · rw [if_neg e]
    refine ⟨h1, h2, ?_, ?_, ?_, ?_, ?_⟩
    · simp only [wI_get, wJ_1]
      simpa using h3
    · simp only [wI_get, wJ_1]
      simpa [e] using h4
    · intro i p hip
      simp only [wI_get, wJ_1]
      simpa using h5 i p hip
    · intro i f hf
      simp only [wI_2, wJ_get]
      simpa [e] using h6 i f hf
    · intro p hp
      simp only [wI_2, wJ_get]
      simpa using h7 p hp
section
variable {l : Launch} {E : En}
/-- enlarge, at a level -/
def EnlC (l : Launch) (E : En) (n k : Nat) : Prop := ∀ (w : Wd) (s : CS) (m : Nat → Nat) (po : Option AV → Wd → Prop), ChW w s → CW s → CC s k → IRR s k → Fx k m → ¬ H s k m → (cM s k).length < 16 → (∀ u s', ChW u s' → Sm chK w u → EnlP k m s s' → po none u) →
  Ctr l E (5 + 2 * n) 0 mX1_enlarge [vR 2, vI (nI k), vJ (rw m)] w po noX
theorem c_meet (G : GC l E) {n k : Nat} (hkn : k + (n + 1) = 12) (hE : k + 1 < 12 → EnlC l E n (k + 1)) {w : Wd} {s : CS} {r : Nat → Nat} {po : Option AV → Wd → Prop} (hw : ChW w s) (hcw : CW s) (hcc : CC s (k + 1)) (hir : IRR s (k + 1)) (hr : Fx k r) (hpo : ∀ u s', ChW u s' → Sm chK w u → MetP k r s s' → po none u) :
    Ctr l E (6 + 2 * n) 0 mX1_meet [vR 2, vI (nI k), vJ (rw r)] w po noX := by
  refine Ctr.of (tw := []) G.1 G.2 oX1_ok pgX1_meet rfl (by decide) rfl rfl (Nat.le_of_ble_eq_true rfl) ?_
  intro V hV
  have hk : k < 12 := by omega
  have hrk := hr.1.1 k hk
  obtain ⟨g1, -, -, -, -, -, g7⟩ := hw k hk
  repeat refine hV.go rfl ?_
  refine And.intro (callP_v (c_at G hr.1.lt16 hk w) (by omega) (by decide) ?_) trivial
  repeat refine hV.go rfl ?_
  refine And.intro (callP_v (c_takes G hw hcw hk hrk) (by omega) (by decide) ?_) trivial
  refine hV.go rfl ?_
  refine And.intro (fun hc => ?_) (fun hc => ?_)
  · have hin : r k ∈ cO s k := of_decide_eq_true (b2i_ne.mp hc)
    have g8 := (g7 _ hrk).1 hin
    have hT := (hcw k hk).2.2.2.1 _ hin
    have hrf := rest_fx hcw hk hr hin
    repeat refine hV.go rfl ?_
    refine Exists.intro k (And.intro rfl (And.intro hk ?_))
    repeat refine hV.go rfl ?_
    refine And.intro hk (Exists.intro (r k) (And.intro rfl (And.intro hrk ?_)))
    refine topJ (V := V) g8.2 ?_
    refine hV.go rfl ?_
    refine And.intro (callP_v (c_then G hr.1.1 hT.2.1.iv.lt16 w) (by omega) (by decide) ?_) trivial
    iterate 5 refine hV.go rfl ?_
    refine topI (V := V) (nI_1 k) ?_
    iterate 2 refine hV.go rfl ?_
    refine And.intro (callP_v (c_holdsFrom (k0 := k + 1) G hw hcw (by omega) hrf.1) (by omega) (by decide) ?_) trivial
    refine hV.go rfl ?_
    refine And.intro (fun hc => ?_) (fun hc => ?_)
    · have hh : H s (k + 1) (cmp r (iv (cT s k (r k)))) := b2i_ne.mp hc
      refine hV.go rfl ?_
      exact ⟨hpo w s hw Sm.rf (same_MetP hcw hcc hir hk hin hh), Nat.le_refl _⟩
    · have hh : ¬ H s (k + 1) (cmp r (iv (cT s k (r k)))) := fun z => hc (b2i_ne.mpr z)
      have hk1 : k + 1 < 12 := by
        rcases Nat.lt_or_ge (k + 1) 12 with z | z
        · exact z
        · have : k + 1 = 12 := by omega
          rw [this] at hh
          exact absurd (H_12 s _) hh
      have hng : ¬ Gen (cM s (k + 1)) (cmp r (iv (cT s k (r k)))) := fun z => hh ((hcc (k + 1) (Nat.le_refl _) hk1 _ hrf).mpr z)
      have hlen : (cM s (k + 1)).length < 16 := by
        have := irr_le (k := k + 1) (l := cM s (k + 1) ++ [cmp r (iv (cT s k (r k)))]) (by omega) (by omega) (fun f hf => by
          rw [List.mem_append, List.mem_singleton] at hf
          rcases hf with hf | rfl
          · exact (hcw (k + 1) hk1).2.2.2.2 f hf
          · exact hrf) ((hir (k + 1) (Nat.le_refl _) hk1).add hng)
        simp only [List.length_append, List.length_cons, List.length_nil] at this
        omega
      iterate 4 refine hV.go rfl ?_
      refine topI (V := V) (nI_1 k) ?_
      iterate 2 refine hV.go rfl ?_
      refine And.intro (callP_r (hE hk1 w s _ (fun v u => v = none ∧ ∃ s', ChW u s' ∧ Sm chK w u ∧ EnlP (k + 1) (cmp r (iv (cT s k (r k)))) s s') hw hcw hcc hir hrf hh hlen (fun u s' h1 h2 h3 => ⟨rfl, s', h1, h2, h3⟩)) (by omega) (by decide) (fun v u hp => ?_)) trivial
      obtain ⟨rfl, s', h1, h2, h3⟩ := hp
      refine hV.go rfl ?_
      exact ⟨hpo u s' h1 h2 (enl_MetP hcw hcc hk1 hr hin h3), Nat.le_refl _⟩
  · have hin : r k ∉ cO s k := fun z => hc (b2i_ne.mpr (decide_eq_true z))
    have hlen : (cO s k).length < 12 := by
      have := nodup_len (n := 12) (l := r k :: cO s k) (List.nodup_cons.mpr ⟨hin, (hcw k hk).1⟩) (fun p hp => by
        rcases List.mem_cons.mp hp with rfl | hp
        · exact hrk
        · exact ((hcw k hk).2.2.2.1 p hp).1)
      simp only [List.length_cons] at this
      omega
    repeat refine hV.go rfl ?_
    refine And.intro (callP_r (c_keepTaker (po := fun v u => v = none ∧ ChW u (keep s k r) ∧ Sm chK w u) G hw hk hr.1 hlen hin (fun u h1 h2 => ⟨rfl, h1, h2⟩)) (by omega) (by decide) (fun v u hp => ?_)) trivial
    obtain ⟨rfl, h1, h2⟩ := hp
    refine hV.go rfl ?_
    exact ⟨hpo u _ h1 h2 (keep_MetP hcw hcc hir hk hr hin), Nat.le_refl _⟩
theorem c_enlS (G : GC l E) {n k : Nat} (hkn : k + (n + 1) = 12) (hE : k + 1 < 12 → EnlC l E n (k + 1)) : EnlC l E (n + 1) k := by
  intro w s m po hw hcw hcc hir hm hnm hlen hpo
  refine Ctr.of (tw := []) G.1 G.2 oX1_ok pgX1_enlarge rfl (by decide) rfl rfl (Nat.le_of_ble_eq_true rfl) ?_
  intro V hV
  have hk : k < 12 := by omega
  obtain ⟨nw, hnw⟩ : ∃ nw, nw = (cM s k).length := ⟨_, rfl⟩
  obtain ⟨ol, hol⟩ : ∃ ol, ol = (cO s k).length := ⟨_, rfl⟩
  have hol12 : ol ≤ 12 := by rw [hol]; exact (hw k hk).1
  -- the outer loop
  have outer : ∀ c i : Nat, i + c = 12 → ∀ (u : Wd) (s' : CS), ChW u s' → Sm chK w u → EnlI k m s s' → (∀ i' p, i' < i → (cO s' k)[i']? = some p → ∀ x ∈ cM s' k, H s' k (cmp (cT s' k p) x)) → ∀ x7 x8 x9 : Option AV, V 57 [some (vR 2), some (vI (nI k)), some (vJ (rw m)), none, some (vI (nI nw)), some (vI (nI ol)), some (vI (nI i)), x7, x8, x9] [] u 0 := by
    intro c
    induction c with
    | zero =>
      intro i hi u s' hu hsm hI hall x7 x8 x9
      have hi12 : i = 12 := by omega
      obtain ⟨h1, -, h3, -⟩ := hu k hk
      repeat refine hV.go rfl ?_
      refine Exists.intro k (And.intro rfl (And.intro hk ?_))
      refine topI (V := V) h3 ?_
      refine hV.go rfl ?_
      refine And.intro (fun hc => ?_) (fun hc => ?_)
      · refine hV.go rfl ?_
        refine ⟨hpo u s' hu hsm (hI.last hir hcc hk hm hnm (fun p hp x hx => ?_)), Nat.le_refl _⟩
        obtain ⟨i', hi'⟩ := List.getElem?_of_mem hp
        have := (List.getElem?_eq_some_iff.mp hi').1
        exact hall i' p (by omega) hi' x hx
      · exact absurd (show nI (cO s' k).length ≤ nI i from nI_le (by omega) (by omega)) hc
    | succ c ih =>
      intro i hi u s' hu hsm hI hall x7 x8 x9
      obtain ⟨h1, h2, h3, h4, h5, h6, h7⟩ := hu k hk
      repeat refine hV.go rfl ?_
      refine Exists.intro k (And.intro rfl (And.intro hk ?_))
      refine topI (V := V) h3 ?_
      refine hV.go rfl ?_
      refine And.intro (fun hc => ?_) (fun hc => ?_)
      · have hc : nI (cO s' k).length ≤ nI i := hc
        rw [nI_leI (by omega) (by omega)] at hc
        refine hV.go rfl ?_
        refine ⟨hpo u s' hu hsm (hI.last hir hcc hk hm hnm (fun p hp x hx => ?_)), Nat.le_refl _⟩
        obtain ⟨i', hi'⟩ := List.getElem?_of_mem hp
        have := (List.getElem?_eq_some_iff.mp hi').1
        exact hall i' p (by omega) hi' x hx
      · have hc : ¬ nI (cO s' k).length ≤ nI i := hc
        rw [nI_leI (by omega) (by omega)] at hc
        have hil : i < (cO s' k).length := by omega
        obtain ⟨p0, hp0⟩ : ∃ p0, (cO s' k)[i]? = some p0 := ⟨_, List.getElem?_eq_getElem hil⟩
        have hp0m : p0 ∈ cO s' k := List.mem_of_getElem? hp0
        have hT := (hI.1 k hk).2.2.2.1 _ hp0m
        have hTf : Fx k (cT s' k p0) := ⟨hT.2.1, hT.2.2.2⟩
        repeat refine hV.go rfl ?_
        refine And.intro (fun hc => ?_) (fun hc => ?_)
        · have hc : nI 12 ≤ nI i := hc
          rw [nI_leI (by omega) (by omega)] at hc
          omega
        · repeat refine hV.go rfl ?_
          refine Exists.intro k (And.intro rfl (And.intro hk ?_))
          repeat refine hV.go rfl ?_
          refine Exists.intro k (And.intro rfl (And.intro hk ?_))
          repeat refine hV.go rfl ?_
          refine And.intro hk (Exists.intro i (And.intro rfl (And.intro (by omega) ?_)))
          refine topI (V := V) (h5 i p0 hp0) ?_
          refine hV.go rfl ?_
          refine And.intro hk (Exists.intro p0 (And.intro rfl (And.intro hT.1 ?_)))
          refine topJ (V := V) ((h7 p0 hT.1).1 hp0m).1 ?_
          -- the inner loop
          have inner : ∀ c2 j : Nat, j + c2 = nw + 1 → ∀ (u : Wd) (s2 : CS), ChW u s2 → Sm chK w u → EnlI k m s s2 → Ext s' s2 → (∃ t, cO s2 k = cO s' k ++ t) → (∀ j' x, j' < j → (cM s2 k)[j']? = some x → H s2 k (cmp (cT s2 k p0) x)) → V 108 [some (vR 2), some (vI (nI k)), some (vJ (rw m)), none, some (vI (nI nw)), some (vI (nI ol)), some (vI (nI i)), some (vJ (rw (cT s' k p0))), none, some (vI (nI j))] [] u 0 := by
            intro c2
            induction c2 with
            | zero =>
              intro j hj u s2 hu hsm hI2 hext ht hmm
              repeat refine hV.go rfl ?_
              refine And.intro (fun hc => ?_) (fun hc => ?_)
              · iterate 2 refine hV.go rfl ?_
                have hlM : (cM s2 k).length = nw + 1 := by rw [hI2.2.2.1, List.length_append, hnw]; rfl
                have := ih (i + 1) (by omega) u s2 hu hsm hI2 (fun i' p hi' hp x hx => by
                  obtain ⟨t, ht⟩ := ht
                  by_cases e : i' < (cO s' k).length
                  · have hp' : (cO s' k)[i']? = some p := by rw [ht, List.getElem?_append_left e] at hp; exact hp
                    by_cases e2 : i' = i
                    · subst e2
                      rw [hp0] at hp'
                      cases hp'
                      obtain ⟨j', hj'⟩ := List.getElem?_of_mem hx
                      exact hmm j' x (by have := (List.getElem?_eq_some_iff.mp hj').1; omega) hj'
                    · have hx' : x ∈ cM s' k := by rw [hI.2.2.1]; rw [hI2.2.2.1] at hx; exact hx
                      have hpm : p ∈ cO s' k := List.mem_of_getElem? hp'
                      rw [(hext k hk p hpm).2]
                      exact hext.H (12 - k) k (by omega) _ (hall i' p (by omega) hp' x hx')
                  · omega)
                rw [← nI_inc] at this
                exact this _ _ _
              · exact absurd (show nI nw < nI j from nI_lt (by omega) (by omega)) hc
            | succ c2 ih2 =>
              intro j hj u s2 hu hsm hI2 hext ht hmm
              have hlM : (cM s2 k).length = nw + 1 := by rw [hI2.2.2.1, List.length_append, hnw]; rfl
              obtain ⟨-, -, -, -, -, q6, -⟩ := hu k hk
              obtain ⟨x0, hx0⟩ : ∃ x0, (cM s2 k)[j]? = some x0 := ⟨_, List.getElem?_eq_getElem (by omega)⟩
              have hx0m : x0 ∈ cM s2 k := List.mem_of_getElem? hx0
              have hx0f : Fx k x0 := (hI2.1 k hk).2.2.2.2 x0 hx0m
              have hp2 : p0 ∈ cO s2 k := (hext k hk p0 hp0m).1
              have eT2 : cT s2 k p0 = cT s' k p0 := (hext k hk p0 hp0m).2
              repeat refine hV.go rfl ?_
              refine And.intro (fun hc => ?_) (fun hc => ?_)
              · have hc : nI nw < nI j := hc
                rw [nI_ltI (by omega) (by omega)] at hc
                omega
              · repeat refine hV.go rfl ?_
                refine Exists.intro k (And.intro rfl (And.intro hk ?_))
                repeat refine hV.go rfl ?_
                refine And.intro hk (Exists.intro j (And.intro rfl (And.intro (show j < 16 by omega) ?_)))
                refine topJ (V := V) (q6 j x0 hx0) ?_
                refine hV.go rfl ?_
                refine And.intro (callP_v (c_then G hT.2.1.1 hx0f.1.lt16 u) (by omega) (by decide) ?_) trivial
                refine hV.go rfl ?_
                have hrG : Gen (cM s2 k) (cmp (cT s' k p0) x0) := by
                  rw [← eT2]
                  exact (hI2.2.2.2.2.2.2.2.1 p0 hp2).mul (Gen.of hx0m)
                refine And.intro (callP_r (c_meet (po := fun v z => v = none ∧ ∃ s3, ChW z s3 ∧ Sm chK u z ∧ MetP k (cmp (cT s' k p0) x0) s2 s3) G hkn hE hu hI2.1 hI2.2.1 hI2.2.2.2.2.2.1 (hTf.cmp hx0f) (fun z s3 y1 y2 y3 => ⟨rfl, s3, y1, y2, y3⟩)) (by omega) (by decide) (fun v z hp => ?_)) trivial
                obtain ⟨rfl, s3, y1, y2, y3⟩ := hp
                iterate 2 refine hV.go rfl ?_
                have hM3 : cM s3 k = cM s2 k := y3.2.2.1
                have hext3 : Ext s2 s3 := y3.2.2.2.1
                have := ih2 (j + 1) (by omega) z s3 y1 (hsm.tr y2) (hI2.met hrG y3) (hext.tr hext3) (by
                  obtain ⟨t, ht⟩ := ht
                  obtain ⟨t2, ht2⟩ := y3.2.2.2.2.2.2.2.1
                  exact ⟨t ++ t2, by rw [ht2, ht, List.append_assoc]⟩) (fun j' x hj' hx => by
                  rw [hM3] at hx
                  rw [(hext3 k hk p0 hp2).2]
                  by_cases e : j' = j
                  · subst e
                    rw [hx0] at hx
                    cases hx
                    rw [eT2]
                    exact y3.2.2.2.2.2.2.1
                  · exact hext3.H (12 - k) k (by omega) _ (hmm j' x (by omega) hx))
                rw [← nI_inc] at this
                exact this
          iterate 3 refine hV.go rfl ?_
          refine hV.go rfl ?_
          refine And.intro (fun hc => ?_) (fun hc => ?_)
          · iterate 2 refine hV.go rfl ?_
            exact inner (nw + 1) 0 (by omega) u s' hu hsm hI Ext.rf ⟨[], by simp⟩ (fun j' x hj' => by omega)
          · have hc : ¬ nI ol ≤ nI i := hc
            rw [nI_leI (by omega) (by omega)] at hc
            iterate 3 refine hV.go rfl ?_
            refine inner 1 nw (by omega) u s' hu hsm hI Ext.rf ⟨[], by simp⟩ (fun j' x hj' hx => ?_)
            obtain ⟨t, ht⟩ := hI.2.2.2.2.2.2.1
            refine hI.old hcw hcc hk (p := p0) ?_ (x := x) ?_
            · rw [ht, List.getElem?_append_left (by omega)] at hp0
              exact List.mem_of_getElem? hp0
            · rw [hI.2.2.1, List.getElem?_append_left (by omega)] at hx
              exact List.mem_of_getElem? hx
  obtain ⟨h1, h2, h3, h4, h5, h6, h7⟩ := hw k hk
  repeat refine hV.go rfl ?_
  refine And.intro (fun hc => ?_) (fun hc => ?_)
  · have hc : nI 12 ≤ nI k := hc
    rw [nI_leI (by omega) (by omega)] at hc
    omega
  · repeat refine hV.go rfl ?_
    refine Exists.intro k (And.intro rfl (And.intro hk ?_))
    refine topI (V := V) h4 ?_
    repeat refine hV.go rfl ?_
    refine And.intro (fun hc => ?_) (fun hc => ?_)
    · repeat refine hV.go rfl ?_
      refine Exists.intro k (And.intro rfl (And.intro hk ?_))
      refine topI (V := V) h4 ?_
      repeat refine hV.go rfl ?_
      refine Exists.intro k (And.intro rfl (And.intro hk ?_))
      refine topI (V := V) h3 ?_
      repeat refine hV.go rfl ?_
      refine Exists.intro k (And.intro rfl (And.intro hk ?_))
      repeat refine hV.go rfl ?_
      refine And.intro hk (Exists.intro (cM s k).length (And.intro rfl (And.intro hlen ?_)))
      repeat refine hV.go rfl ?_
      refine Exists.intro k (And.intro rfl (And.intro hk ?_))
      refine topI (V := V) h4 ?_
      iterate 2 refine hV.go rfl ?_
      refine topI (V := V) (nI_1 _) ?_
      refine hV.go rfl ?_
      refine Exists.intro k (And.intro rfl (And.intro hk ?_))
      iterate 2 refine hV.go rfl ?_
      have := outer 12 0 (by omega) _ _ (addM_W (m := m) hw hlen) (Sm.wI (k := 21) (Sm.wJ (k := 14) Sm.rf (by decide)) (by decide)) (EnlI.first hcw hcc hir hk hm) (fun i' p hi' => by omega) none none none
      rw [hnw, hol] at this
      exact this
    · exact absurd (show nI (cM s k).length < nI 16 from nI_lt hlen (by decide)) hc
theorem c_enl (G : GC l E) : ∀ n k, k + n = 12 → k < 12 → EnlC l E n k
  | 0, k, h, hk => by omega
  | n + 1, k, h, _ => c_enlS G h (fun h1 => c_enl G n (k + 1) (by omega) h1)
theorem c_admit (G : GC l E) {w : Wd} {s : CS} {f : Nat → Nat} {po : Option AV → Wd → Prop} (hw : ChW w s) (hcw : CW s) (hcc : CC s 0) (hir : IRR s 0) (hf : Pm f) (hlen : (cM s 0).length < 16) (hpo : ∀ u s', ChW u s' → Sm chK w u → CW s' → CC s' 0 → IRR s' 0 → (cM s' 0 = cM s 0 ∧ Gen (cM s 0) f ∨ cM s' 0 = cM s 0 ++ [f]) → po none u) :
    Ctr l E 30 0 mX1_admit [vR 2, vJ (rw f)] w po noX := by
  refine Ctr.of (tw := []) G.1 G.2 oX1_ok pgX1_admit rfl (by decide) rfl rfl (Nat.le_of_ble_eq_true rfl) ?_
  intro V hV
  have hf0 : Fx 0 f := ⟨hf, fun j hj => by omega⟩
  repeat refine hV.go rfl ?_
  refine And.intro (callP_v (c_holds G hw hcw hf) (by decide) (by decide) ?_) trivial
  refine hV.go rfl ?_
  refine And.intro (fun hc => ?_) (fun hc => ?_)
  · have hh : H s 0 f := b2i_ne.mp hc
    refine hV.go rfl ?_
    exact ⟨hpo w s hw Sm.rf hcw hcc hir (Or.inl ⟨rfl, (hcc 0 (Nat.le_refl _) (by decide) f hf0).mp hh⟩), Nat.le_refl _⟩
  · have hh : ¬ H s 0 f := fun z => hc (b2i_ne.mpr z)
    repeat refine hV.go rfl ?_
    refine And.intro (callP_r (c_enl G 12 0 rfl (by decide) w s f (fun v u => v = none ∧ ∃ s', ChW u s' ∧ Sm chK w u ∧ EnlP 0 f s s') hw hcw hcc hir hf0 hh hlen (fun u s' h1 h2 h3 => ⟨rfl, s', h1, h2, h3⟩)) (by decide) (by decide) (fun v u hp => ?_)) trivial
    obtain ⟨rfl, s', h1, h2, h3⟩ := hp
    refine hV.go rfl ?_
    exact ⟨hpo u s' h1 h2 h3.1 h3.2.1 h3.2.2.2.2.2 (Or.inr h3.2.2.1), Nat.le_refl _⟩
end
