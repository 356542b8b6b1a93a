/-- the chain of a puzzle without turns -/
def cs0 : CS := (fun k => [k], fun _ _ => idp, fun _ => [])
theorem cs0_O (k : Nat) : cO cs0 k = [k] := rfl
theorem cs0_T (k p : Nat) : cT cs0 k p = idp := rfl
theorem cs0_M (k : Nat) : cM cs0 k = [] := rfl
theorem cs0_W : CW cs0 := fun k hk => ⟨by simp [cs0_O, cs0_T, cs0_M], by simp [cs0_O, cs0_T, cs0_M], rfl, fun p hp => by
  have e : p = k := by simpa [cs0_O, cs0_T, cs0_M] using hp
  subst e
  exact ⟨hk, Pm.id, rfl, fun _ _ => rfl⟩, fun f hf => by simp [cs0_O, cs0_T, cs0_M] at hf⟩
section
variable {l : Launch} {E : En}
theorem c_clear {w : Wd} {po : Option AV → Wd → Prop} (G : GC l E) (hpo : ∀ u, ChW u cs0 → Sm chK w u → po none u) : Ctr l E 3 0 mX1_clear [vR 2] w po noX := by
  refine Ctr.of (tw := []) G.1 G.2 oX1_ok pgX1_clear rfl (by decide) rfl rfl (Nat.le_of_ble_eq_true rfl) ?_
  intro V hV
  have loop : ∀ n k : Nat, k + n = 12 → ∀ u : Wd, (∀ j, j < k → ChL u cs0 j) → Sm chK w u → V 2 [some (vR 2), some (vI (nI k))] [] u 0 := by
    intro n
    induction n with
    | zero =>
      intro k hk u h1 h2
      have : k = 12 := by omega
      subst this
      repeat refine hV.go rfl ?_
      refine And.intro (fun hc => ?_) (fun hc => ?_)
      · repeat refine hV.go rfl ?_
        exact ⟨hpo u h1 h2, Nat.le_refl _⟩
      · exact absurd (show nI 12 ≤ nI 12 from nI_le (Nat.le_refl _) (by omega)) hc
    | succ n ih =>
      intro k hk u h1 h2
      have hk : k < 12 := by omega
      repeat refine hV.go rfl ?_
      refine And.intro (fun hc => ?_) (fun hc => ?_)
      · have hc : nI 12 ≤ nI k := hc
        rw [nI_leI (by omega) (by omega)] at hc
        omega
      · repeat refine hV.go rfl ?_
        refine Exists.intro k (And.intro rfl (And.intro hk ?_))
        repeat refine hV.go rfl ?_
        refine And.intro (callP_r (c_fillJ (x := 0) G hk) (by decide) (by decide) (fun r v hp => ?_)) trivial
        obtain ⟨rfl, hv1, hv2⟩ := hp
        repeat refine hV.go rfl ?_
        refine Exists.intro k (And.intro rfl (And.intro hk ?_))
        repeat refine hV.go rfl ?_
        refine Exists.intro k (And.intro rfl (And.intro hk ?_))
        iterate 2 refine hV.go rfl ?_
        refine hV.go rfl ?_
        refine topJ (V := V) rw_id ?_
        refine hV.go rfl ?_
        refine And.intro (callP_r (c_keepTakerG (n := 0) (po := fun r z => r = none ∧ z = wI (wI (wJ (wJ (wI (wI v 21 0 k 0) 22 0 k 0) 16 k k (rw idp)) 18 k k (rw (iv idp))) 20 k 0 (nI k)) 22 0 k (nI 1)) G (by simp only [wI_get]; simp; rfl) hk Pm.id (by decide) ⟨rfl, rfl⟩) (by decide) (by decide) (fun r z hp => ?_)) trivial
        obtain ⟨rfl, rfl⟩ := hp
        iterate 2 refine hV.go rfl ?_
        have hz : ∀ j, j < k + 1 → ChL (wI (wI (wJ (wJ (wI (wI v 21 0 k 0) 22 0 k 0) 16 k k (rw idp)) 18 k k (rw (iv idp))) 20 k 0 (nI k)) 22 0 k (nI 1)) cs0 j := by
          intro j hj
          by_cases e : j = k
          · subst e
            refine ⟨by simp [cs0_O, cs0_T, cs0_M], by simp [cs0_O, cs0_T, cs0_M], ?_, ?_, ?_, ?_, ?_⟩
            · simp [wI_get, cs0_O, cs0_T, cs0_M]
            · simp only [wI_get, wJ_1]
              simp [cs0_O, cs0_T, cs0_M]; rfl
            · intro i p hip
              have h9 : i < 1 := (List.getElem?_eq_some_iff.mp hip).1
              have h8 : i = 0 := by omega
              subst h8
              have : j = p := by simpa [cs0_O, cs0_T, cs0_M] using hip
              subst this
              simp [wI_get]
            · intro i f hf
              simp [cs0_O, cs0_T, cs0_M] at hf
            · intro p hp
              simp only [wI_2, wJ_get, hv2]
              by_cases e : p = j
              · subst e
                simp [cs0_O, cs0_T, cs0_M]
              · simp [cs0_O, cs0_T, cs0_M, e, hp]
          · have h9 : j < k := by omega
            obtain ⟨a1, a2, a3, a4, a5, a6, a7⟩ := h1 j h9
            refine ⟨a1, a2, ?_, ?_, ?_, ?_, ?_⟩
            · simp only [wI_get, wJ_1, hv1]
              simpa [e] using a3
            · simp only [wI_get, wJ_1, hv1]
              simpa [e] using a4
            · intro i p hip
              simp only [wI_get, wJ_1, hv1]
              simpa [e] using a5 i p hip
            · intro i f hf
              simp only [wI_2, wJ_get, hv2]
              simpa [e] using a6 i f hf
            · intro p hp
              simp only [wI_2, wJ_get, hv2]
              simpa [e] using a7 p hp
        have hv : Sm chK w v := fun a ha => ⟨by rw [hv1]; exact (h2 a ha).1, by
          rw [← (h2 a ha).2]
          funext b c
          rw [hv2]
          exact if_neg (fun z => ha (by rw [z.1]; decide))⟩
        have := ih (k + 1) (by omega) _ hz (Sm.wI (k := 22) (Sm.wI (k := 20) (Sm.wJ (k := 18) (Sm.wJ (k := 16) (Sm.wI (k := 22) (Sm.wI (k := 21) hv (by decide)) (by decide)) (by decide)) (by decide)) (by decide)) (by decide))
        rw [← nI_inc] at this
        exact this
  iterate 2 refine hV.go rfl ?_
  exact loop 12 0 (by omega) w (fun j hj => by omega) Sm.rf
end
