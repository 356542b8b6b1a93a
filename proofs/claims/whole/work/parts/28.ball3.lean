section
variable {l : Launch} {E : En}
theorem c_baFill {w : Wd} {mv : List (Nat → Nat)} {rad : Nat} {po : Option AV → Wd → Prop} (G : GC l E) (hmv : MvW w mv) (hrad : rad ≤ 1500) (hcap : ∀ L : List (Nat → Nat), L.Nodup → (∀ f ∈ L, ∃ n, n ≤ rad ∧ Rn mv n f) → L.length ≤ 1500)
    (hpo : ∀ u B sl, BaW u B sl → HT B sl → BaS mv rad B → Sm baK w u → po none u) : Ctr l E 3 0 mX0_fill [vR 3, vR 4, vI (nI mv.length), vI (nI rad)] w po noX := by
  refine Ctr.of (tw := []) G.1 G.2 oX0_ok pgX0_fill rfl (by decide) rfl rfl (Nat.le_of_ble_eq_true rfl) ?_
  intro V hV
  have cap : ∀ (B : BL) (f : Nat → Nat) (n : Nat), (B.map (fun x => x.1)).Nodup → (∀ x ∈ B, Dst mv x.1 x.2) → (∀ x ∈ B, x.2 ≤ rad) → n ≤ rad → Rn mv n f → (∀ x ∈ B, x.1 ≠ f) → B.length < 1500 := by
    intro B f n hnd hD hr hn hR hno
    have := hcap (f :: B.map (fun x => x.1)) (List.nodup_cons.mpr ⟨fun z => by
      obtain ⟨x, hx, e⟩ := List.mem_map.mp z
      exact hno x hx e, hnd⟩) (fun g hg => by
      rcases List.mem_cons.mp hg with rfl | hg
      · exact ⟨n, hn, hR⟩
      · obtain ⟨x, hx, rfl⟩ := List.mem_map.mp hg
        exact ⟨x.2, hr x hx, (hD x hx).1⟩)
    simp only [List.length_cons, List.length_map] at this
    omega
  have outer : ∀ c i : Nat, i + c = 1500 → ∀ (u : Wd) (B : BL) (sl : Nat → Nat), BaW u B sl → HT B sl → Sm baK w u → BaI mv rad i B → ∀ x5 : Option AV, V 24 [some (vR 3), some (vR 4), some (vI (nI mv.length)), some (vI (nI rad)), some (vI (nI i)), x5] [] u 0 := by
    intro c
    induction c with
    | zero =>
      intro i hi u B sl hu hH hsm hI x5
      obtain ⟨w1, w2, w3, w4⟩ := id hu
      iterate 3 refine hV.go rfl ?_
      refine topI (V := V) w1 ?_
      refine hV.go rfl ?_
      refine And.intro (fun hc => ?_) (fun hc => ?_)
      · refine hV.go rfl ?_
        exact ⟨hpo u B sl hu hH (hI.done (Or.inl (by omega))) hsm, Nat.le_refl _⟩
      · exact absurd (show nI B.length ≤ nI i from nI_le (by omega) (by omega)) hc
    | succ c ih =>
      intro i hi u B sl hu hH hsm hI x5
      obtain ⟨w1, w2, w3, w4⟩ := id hu
      iterate 3 refine hV.go rfl ?_
      refine topI (V := V) w1 ?_
      refine hV.go rfl ?_
      refine And.intro (fun hc => ?_) (fun hc => ?_)
      · have hc : nI B.length ≤ nI i := hc
        rw [nI_leI (by omega) (by omega)] at hc
        refine hV.go rfl ?_
        exact ⟨hpo u B sl hu hH (hI.done (Or.inl hc)) hsm, Nat.le_refl _⟩
      · have hc : ¬ nI B.length ≤ nI i := hc
        rw [nI_leI (by omega) (by omega)] at hc
        obtain ⟨x, hx⟩ : ∃ x, B[i]? = some x := ⟨_, List.getElem?_eq_getElem (show i < B.length by omega)⟩
        have hxm := List.mem_of_getElem? hx
        have hx2 := hI.2.2.2.2.2.1 x hxm
        iterate 2 refine hV.go rfl ?_
        refine hV.go rfl ?_
        refine And.intro (fun hc => ?_) (fun hc => ?_)
        · have hc : nI 1500 ≤ nI i := hc
          rw [nI_leI (by omega) (by omega)] at hc
          omega
        · repeat refine hV.go rfl ?_
          refine Exists.intro i (And.intro rfl (And.intro (show i < 1500 by omega) ?_))
          refine topI (V := V) (w3 i x hx).2 ?_
          iterate 2 refine hV.go rfl ?_
          refine And.intro (fun hc => ?_) (fun hc => ?_)
          · have hc : nI rad ≤ nI x.2 := hc
            rw [nI_leI (by omega) (by omega)] at hc
            refine hV.go rfl ?_
            exact ⟨hpo u B sl hu hH (hI.done (Or.inr ⟨x, hx, hc⟩)) hsm, Nat.le_refl _⟩
          · have hc : ¬ nI rad ≤ nI x.2 := hc
            rw [nI_leI (by omega) (by omega)] at hc
            have inner : ∀ c2 j : Nat, j + c2 = mv.length → ∀ (u : Wd) (B : BL) (sl : Nat → Nat), BaW u B sl → HT B sl → Sm baK w u → B[i]? = some x → BaJ mv rad i j B → V 55 [some (vR 3), some (vR 4), some (vI (nI mv.length)), some (vI (nI rad)), some (vI (nI i)), some (vI (nI j))] [] u 0 := by
              intro c2
              induction c2 with
              | zero =>
                intro j hj u B sl hu hH hsm hx hJ
                have : j = mv.length := by omega
                subst this
                repeat refine hV.go rfl ?_
                refine And.intro (fun hc => ?_) (fun hc => ?_)
                · iterate 2 refine hV.go rfl ?_
                  have := ih (i + 1) (by omega) u B sl hu hH hsm hJ.next (some (vI (nI mv.length)))
                  rw [← nI_inc] at this
                  exact this
                · exact absurd (show nI mv.length ≤ nI mv.length from nI_le (Nat.le_refl _) (by have := hmv.1; omega)) hc
              | succ c2 ih2 =>
                intro j hj u B sl hu hH hsm hx hJ
                obtain ⟨w1, w2, w3, w4⟩ := id hu
                have hm10 := hmv.1
                obtain ⟨mm, hmm⟩ : ∃ mm, mv[j]? = some mm := ⟨_, List.getElem?_eq_getElem (show j < mv.length by omega)⟩
                have hmP := hmv.2.1 mm (List.mem_of_getElem? hmm)
                have hxm := List.mem_of_getElem? hx
                have hxP := hH.2.2.2.1 x hxm
                have hmu := (hmv.sm hsm (by decide)).2.2 j mm hmm
                repeat refine hV.go rfl ?_
                refine And.intro (fun hc => ?_) (fun hc => ?_)
                · have hc : nI mv.length ≤ nI j := hc
                  rw [nI_leI (by omega) (by omega)] at hc
                  omega
                · repeat refine hV.go rfl ?_
                  refine Exists.intro i (And.intro rfl (And.intro (show i < 1500 by omega) ?_))
                  refine topJ (V := V) (w3 i x hx).1 ?_
                  repeat refine hV.go rfl ?_
                  refine Exists.intro j (And.intro rfl (And.intro (show j < 10 by omega) ?_))
                  refine topJ (V := V) hmu ?_
                  refine hV.go rfl ?_
                  refine And.intro (callP_v (c_then G hxP.1 hmP.lt16 u) (by decide) (by decide) ?_) trivial
                  repeat refine hV.go rfl ?_
                  refine Exists.intro i (And.intro rfl (And.intro (show i < 1500 by omega) ?_))
                  refine topI (V := V) (w3 i x hx).2 ?_
                  iterate 2 refine hV.go rfl ?_
                  refine topI (V := V) (nI_1 _) ?_
                  refine hV.go rfl ?_
                  refine And.intro (callP_r (c_baAdmit (f := cmp x.1 mm) (d := x.2 + 1) (po := fun v z => v = none ∧ ∃ B' sl', BaW z B' sl' ∧ HT B' sl' ∧ Sm baK u z ∧ B'[i]? = some x ∧ BaJ mv rad i (j + 1) B') G hu hH (hxP.cmp hmP) (fun hno => cap B _ (x.2 + 1) hH.2.2.1 hJ.1.1 hJ.1.2.2.2.2.2.1 (by omega) ⟨x.1, mm, (hJ.1.1 x hxm).1, List.mem_of_getElem? hmm, rfl⟩ hno) (fun he => ⟨rfl, B, sl, hu, hH, Sm.rf, hx, hJ.same hx hmm he⟩) (fun hno z sl' y1 y2 y3 => ⟨rfl, _, sl', y1, y2, y3, by rw [List.getElem?_append_left (List.getElem?_eq_some_iff.mp hx).1]; exact hx, hJ.add hx hmm hno⟩)) (by decide) (by decide) (fun v z hp => ?_)) trivial
                  obtain ⟨rfl, B', sl', y1, y2, y3, y4, y5⟩ := hp
                  iterate 2 refine hV.go rfl ?_
                  have := ih2 (j + 1) (by omega) z B' sl' y1 y2 (hsm.tr y3) y4 y5
                  rw [← nI_inc] at this
                  exact this
            iterate 2 refine hV.go rfl ?_
            exact inner mv.length 0 (by omega) u B sl hu hH hsm hx ⟨hI, x, hx, by omega, fun j' m hj' => by omega⟩
  repeat refine hV.go rfl ?_
  refine And.intro (callP_r (c_fillI (x := 0) G) (by decide) (by decide) (fun r v hp => ?_)) trivial
  obtain ⟨rfl, hv2, hv1⟩ := hp
  iterate 5 refine hV.go rfl ?_
  refine topJ (V := V) rw_id ?_
  iterate 2 refine hV.go rfl ?_
  have hB0 : BaW (wI v 3 0 3 0) [] (fun _ => 0) := ⟨by simp [wI_get]; rfl, by simp, fun i x hx => by simp at hx, fun j hj => by
    simp only [wI_get, hv1]
    simp [hj]
    rfl⟩
  have hH0 : HT [] (fun _ => 0) := ⟨fun _ _ => Nat.le_refl _, fun _ _ _ _ _ h => absurd rfl h, by simp, fun x hx => by simp at hx, fun i x hx => by simp at hx⟩
  have hs0 : Sm baK w (wI v 3 0 3 0) := Sm.wI (k := 3) (fun a ha => ⟨by
    funext b c
    rw [hv1]
    exact if_neg (fun z => ha (by rw [z.1]; decide)), by rw [hv2]⟩) (by decide)
  refine And.intro (callP_r (c_baAdmit (f := idp) (d := 0) (po := fun r z => r = none ∧ ∃ sl', BaW z [(idp, 0)] sl' ∧ HT [(idp, 0)] sl' ∧ Sm baK (wI v 3 0 3 0) z) G hB0 hH0 Pm.id (fun _ => by decide) (fun ⟨x, hx, _⟩ => by simp at hx) (fun _ z sl' y1 y2 y3 => ⟨rfl, sl', y1, y2, y3⟩)) (by decide) (by decide) (fun r z hp => ?_)) trivial
  obtain ⟨rfl, sl', y1, y2, y3⟩ := hp
  iterate 2 refine hV.go rfl ?_
  refine outer 1500 0 (by omega) z _ sl' y1 y2 (hs0.tr y3) ⟨fun x hx => ?_, fun a b x y _ hx hy => ?_, fun x hx y hy => ?_, fun i' x hi' => by omega, ⟨_, List.mem_cons_self, rfl⟩, fun x hx => ?_, by simp⟩ none
  · rw [List.mem_singleton.mp hx]
    exact ⟨rfl, fun n hn => by omega⟩
  · rw [List.mem_singleton.mp (List.mem_of_getElem? hx), List.mem_singleton.mp (List.mem_of_getElem? hy)]
    exact Nat.le_refl _
  · rw [List.mem_singleton.mp hy]
    exact Nat.zero_le _
  · rw [List.mem_singleton.mp hx]
    exact Nat.zero_le _
theorem c_greatest {w : Wd} {B : BL} {sl : Nat → Nat} (G : GC l E) (hw : BaW w B sl) {x : (Nat → Nat) × Nat} (hl : 0 < B.length) (hx : B[B.length - 1]? = some x) : Ctr l E 1 0 mX0_greatest [vR 3] w (fun r u => r = some (vI (nI x.2)) ∧ u = w) noX := by
  refine Ctr.of (tw := []) G.1 G.2 oX0_ok pgX0_greatest rfl (by decide) rfl rfl (Nat.le_of_ble_eq_true rfl) ?_
  intro V hV
  obtain ⟨w1, w2, w3, w4⟩ := id hw
  iterate 2 refine hV.go rfl ?_
  refine topI (V := V) w1 ?_
  refine hV.go rfl ?_
  refine And.intro (fun hc => ?_) (fun hc => ?_)
  · have hc : nI B.length ≤ nI 0 := hc
    rw [nI_leI (by omega) (by omega)] at hc
    omega
  · iterate 4 refine hV.go rfl ?_
    refine topI (V := V) (y := nI (B.length - 1 + 1)) (by rw [show B.length - 1 + 1 = B.length by omega]; exact w1) ?_
    iterate 2 refine hV.go rfl ?_
    refine topI (V := V) (nI_pred _) ?_
    refine hV.go rfl ?_
    refine Exists.intro (B.length - 1) (And.intro rfl (And.intro (show B.length - 1 < 1500 by omega) ?_))
    refine topI (V := V) (w3 _ x hx).2 ?_
    repeat refine hV.go rfl ?_
    exact ⟨⟨rfl, rfl⟩, Nat.le_refl _⟩
/-- how many have a distance -/
def bcn (B : BL) (d : Int32) : Nat := B.countP (fun x => decide (nI x.2 = d))
theorem c_countAt {w : Wd} {B : BL} {sl : Nat → Nat} (G : GC l E) (hw : BaW w B sl) (d : Int32) : Ctr l E 1 0 mX0_countAt [vR 3, vI d] w (fun r u => r = some (vI (nI (bcn B d))) ∧ u = w) noX := by
  refine Ctr.of (tw := []) G.1 G.2 oX0_ok pgX0_countAt rfl (by decide) rfl rfl (Nat.le_of_ble_eq_true rfl) ?_
  intro V hV
  obtain ⟨w1, w2, w3, w4⟩ := id hw
  have loop : ∀ n i : Nat, i + n = B.length → V 4 [some (vR 3), some (vI d), some (vI (nI (bcn (B.take i) d))), some (vI (nI i))] [] w 0 := by
    intro n
    induction n with
    | zero =>
      intro i hi
      iterate 3 refine hV.go rfl ?_
      refine topI (V := V) w1 ?_
      refine hV.go rfl ?_
      refine And.intro (fun hc => ?_) (fun hc => ?_)
      · repeat refine hV.go rfl ?_
        refine ⟨⟨?_, rfl⟩, Nat.le_refl _⟩
        rw [List.take_of_length_le (by omega)]
      · exact absurd (show nI B.length ≤ nI i from nI_le (by omega) (by omega)) hc
    | succ n ih =>
      intro i hi
      have hget : B[i]? = some B[i] := List.getElem?_eq_getElem (by omega)
      have e1 : bcn (B.take (i + 1)) d = bcn (B.take i) d + if nI B[i].2 = d then 1 else 0 := by
        unfold bcn
        rw [List.take_add_one, hget, List.countP_append]
        simp [List.countP_cons]
      iterate 3 refine hV.go rfl ?_
      refine topI (V := V) w1 ?_
      refine hV.go rfl ?_
      refine And.intro (fun hc => ?_) (fun hc => ?_)
      · have hc : nI B.length ≤ nI i := hc
        rw [nI_leI (by omega) (by omega)] at hc
        omega
      · repeat refine hV.go rfl ?_
        refine Exists.intro i (And.intro rfl (And.intro (show i < 1500 by omega) ?_))
        refine topI (V := V) (w3 i _ hget).2 ?_
        iterate 2 refine hV.go rfl ?_
        refine And.intro (fun hc => ?_) (fun hc => ?_)
        · have hc : ¬ nI B[i].2 = d := hc
          iterate 2 refine hV.go rfl ?_
          have := ih (i + 1) (by omega)
          rw [e1, if_neg hc, Nat.add_zero, ← nI_inc] at this
          exact this
        · have hc : nI B[i].2 = d := Classical.not_not.mp hc
          iterate 3 refine hV.go rfl ?_
          have := ih (i + 1) (by omega)
          rw [e1, if_pos hc, ← nI_inc, ← nI_inc] at this
          exact this
  iterate 4 refine hV.go rfl ?_
  exact loop B.length 0 (by omega)
end
