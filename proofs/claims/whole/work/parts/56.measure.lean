/-! the reference measures -/
theorem rnk_id {P : (Nat → Nat) → Prop} : ∀ m i, rnk P idp m i = 0
  | 0, _ => rfl
  | m + 1, i => by
    show lsr P idp i * _ + rnk P idp m (i + 1) = 0
    have : lsr P idp i = 0 := List.countP_eq_zero.mpr (fun p _ h => by
      rw [Bool.and_eq_true, decide_eq_true_iff, cd_t] at h
      obtain ⟨h1, f, a, b, rfl⟩ := h
      have := b.ge (Nat.le_refl i)
      have h1 : f i < i := h1
      omega)
    rw [this, rnk_id m (i + 1), Nat.zero_mul]
def MFw (u : Wd) (ts : List (Nat → Nat)) (B : BL) : Prop := (∀ (i : Nat) (x : (Nat → Nat) × Nat), B[i]? = some x → u.1 40 0 i = nI (rN ts x.1)) ∧ (∀ x ∈ B, u.1 39 0 (rN ts x.1) = nI x.2) ∧ (∀ r, r < oN ts → (∀ x ∈ B, rN ts x.1 ≠ r) → u.1 39 0 r = -1) ∧ (B.map (fun x => x.1)).Nodup
theorem MFw.cg {w u : Wd} {ts : List (Nat → Nat)} {B : BL} (h : MFw w ts B) (h1 : u.1 39 = w.1 39) (h2 : u.1 40 = w.1 40) : MFw u ts B := by
  unfold MFw at h ⊢
  rw [h1, h2]
  exact h
abbrev meK : List Nat := [30, 36, 37, 38, 39, 40, 42, 43]
section
variable {l : Launch} {E : En}
theorem m_measure {w : Wd} {A : AS} {s : CS} {po : Option AV → Wd → Prop} (G : GM l E) (hw : QI w A) (hr : RC w A s) (ho : oN A.2.1 ≤ 1500) (hpo : ∀ u, QI u A → RC u A s → FR u A.2.1 → u.1 30 0 0 = w.1 30 0 0 → Sm meK w u → po none u) : Ctr l E 6 0 mX5_measure [vR 30] w po noX := by
  refine Ctr.of (tw := []) G.1 G.2 oX5_ok pgX5_measure rfl (by decide) rfl rfl (Nat.le_of_ble_eq_true rfl) ?_
  intro V hV
  iterate 2 refine hV.go rfl ?_
  have hcp := hr.2.2.2
  have hgr := hr.gr
  have hpm : ∀ t ∈ A.2.1, Pm t := fun t ht => (hr.1.1.2.1.2 t ht).1
  have h5 := hr.1.1.2.1.1
  have hmr : w.1 30 0 13 = 0 ∨ (w.1 30 0 13 = 1 ∧ FR w A.2.1) := by
    rcases hw.2.2.2 with z | z
    · rw [hr.2.1] at z
      exact absurd z (by decide)
    · exact z.2.2
  rcases hmr with h13 | ⟨h13, hfr⟩
  · refine topI (V := V) h13 ?_
    refine hV.go rfl ?_
    refine And.intro (fun _ => ?_) (fun hc => absurd rfl hc)
    iterate 3 refine hV.go rfl ?_
    refine And.intro (Or.inr rfl) ?_
    have key : ∀ w1 : Wd, w1 = wI w 30 0 13 1 → V 13 [some (vR 30), none, none, none, none, none, none] [] w1 0 := by
      intro w1 hw1
      have s1 : Sm [30] w w1 := by
        rw [hw1]
        exact Sm.wI (k := 30) Sm.rf (by decide)
      have e1 : ∀ j, j ≠ 13 → w1.1 30 0 j = w.1 30 0 j := fun j hj => by rw [hw1, wI_ne (by omega)]
      have hr1 : RC w1 A s := ⟨⟨hr.1.1.cg (e1 1 (by decide)) (e1 2 (by decide)) (s1 31 (by decide)).1 (s1 32 (by decide)).1, trivial⟩, (e1 7 (by decide)).trans hr.2.1, hr.2.2.1.cg (s1 34 (by decide)).1 (s1 35 (by decide)).1, hcp⟩
      have hru : ∀ u, Sm [36, 37, 38, 39, 40, 42, 43] w1 u → RC u A s := fun u hs => ⟨⟨hr1.1.1.cg (by rw [(hs 30 (by decide)).1]) (by rw [(hs 30 (by decide)).1]) (hs 31 (by decide)).1 (hs 32 (by decide)).1, trivial⟩, by rw [(hs 30 (by decide)).1]; exact hr1.2.1, hr1.2.2.1.cg (hs 34 (by decide)).1 (hs 35 (by decide)).1, hcp⟩
      have capL : ∀ B : BL, (∀ x ∈ B, Dst (mvs A.2.1) x.1 x.2) → (B.map (fun x => x.1)).Nodup → B.length ≤ oN A.2.1 := by
        intro B hd hn
        have := hcp.few hpm hn (fun f hf => by
          obtain ⟨x, hx, rfl⟩ := List.mem_map.mp hf
          exact Rn_gen hpm (hd x hx).1)
        rwa [List.length_map] at this
      have capD : ∀ f d, Dst (mvs A.2.1) f d → d < 1500 := by
        intro f d hd
        obtain ⟨L, a, b, c⟩ := hd.path
        have := hcp.few hpm b (fun g hg => by
          obtain ⟨i, -, h⟩ := c g hg
          exact Rn_gen hpm h.1)
        omega
      have fin : ∀ u B, Sm [36, 37, 38, 39, 40, 42, 43] w1 u → MFw u A.2.1 B → BaS (mvs A.2.1) 1500 B → po none u := by
        intro u B hs hm hb
        have hfu : FR u A.2.1 := fun f d hf hd => by
          obtain ⟨x, hx, rfl⟩ := (ball_all hcp hpm ho hb f).mp hf
          rw [hm.2.1 x hx, (hb.1 x hx).uniq hd]
        have g : ∀ j, j ≠ 13 → u.1 30 0 j = w.1 30 0 j := fun j hj => by rw [(hs 30 (by decide)).1]; exact e1 j hj
        have g1 : ∀ k, k ∉ [30, 36, 37, 38, 39, 40, 42, 43] → u.1 k = w.1 k := fun k hk => ((s1.mono (by decide)).tr (hs.mono (by decide)) k hk).1
        refine hpo u ⟨(hru u hs).1.1, hw.2.1.cg (g 5 (by decide)) (g1 33 (by decide)), hw.2.2.1.cg (g 16 (by decide)) (g1 41 (by decide)), Or.inr ⟨(hru u hs).2.1, ⟨s, (hru u hs).2.2.1, hcp⟩, Or.inr ⟨?_, hfu⟩⟩⟩ (hru u hs) hfu (g 0 (by decide)) ((s1.mono (by decide)).tr (hs.mono (by decide)))
        rw [(hs 30 (by decide)).1, hw1, wI_eq]
      have outer : ∀ c i : Nat, i + c = 1500 → ∀ (u : Wd) (B : BL) (x4 x5 x6 : Option AV), Sm [36, 37, 38, 39, 40, 42, 43] w1 u → MFw u A.2.1 B → BaI (mvs A.2.1) 1500 i B → V 58 [some (vR 30), some (vI (nI (oN A.2.1))), some (vI (nI B.length)), some (vI (nI i)), x4, x5, x6] [] u 0 := by
        intro c
        induction c with
        | zero =>
          intro i hi u B x4 x5 x6 hs hm hI
          have hbl := capL B hI.1 hm.2.2.2
          iterate 3 refine hV.go rfl ?_
          refine And.intro (fun _ => ?_) (fun hc => absurd (show nI B.length ≤ nI i from nI_le (by omega) (by omega)) hc)
          refine hV.go rfl ?_
          exact ⟨fin u B hs hm (hI.done (Or.inl (by omega))), Nat.le_refl _⟩
        | succ c ih =>
          intro i hi u B x4 x5 x6 hs hm hI
          have hbl := capL B hI.1 hm.2.2.2
          iterate 3 refine hV.go rfl ?_
          refine And.intro (fun hc => ?_) (fun hc => ?_)
          · have hc : nI B.length ≤ nI i := hc
            rw [nI_leI (by omega) (by omega)] at hc
            refine hV.go rfl ?_
            exact ⟨fin u B hs hm (hI.done (Or.inl hc)), Nat.le_refl _⟩
          · have hc : ¬ nI B.length ≤ nI i := hc
            rw [nI_leI (by omega) (by omega)] at hc
            obtain ⟨x, hx⟩ : ∃ x, B[i]? = some x := ⟨_, List.getElem?_eq_getElem (show i < B.length by omega)⟩
            have hxm := List.mem_of_getElem? hx
            have hxd := capD _ _ (hI.1 x hxm)
            have hxg : Gen A.2.1 x.1 := Rn_gen hpm (hI.1 x hxm).1
            have hxr : rN A.2.1 x.1 < 1500 := Nat.lt_of_lt_of_le (hcp.rnk_lt x.1 12 0 rfl) ho
            iterate 4 refine hV.go rfl ?_
            refine Exists.intro i (And.intro rfl (And.intro (show i < 1500 by omega) ?_))
            refine topI (V := V) (hm.1 i x hx) ?_
            have inner : ∀ c2 j : Nat, j + c2 = (mvs A.2.1).length → ∀ (u : Wd) (B : BL) (x6 : Option AV), Sm [36, 37, 38, 39, 40, 42, 43] w1 u → MFw u A.2.1 B → B[i]? = some x → BaJ (mvs A.2.1) 1500 i j B → V 74 [some (vR 30), some (vI (nI (oN A.2.1))), some (vI (nI B.length)), some (vI (nI i)), some (vI (nI (rN A.2.1 x.1))), some (vI (nI j)), x6] [] u 0 := by
              intro c2
              induction c2 with
              | zero =>
                intro j hj u B x6 hs hm hx hJ
                rw [mvs_len] at hj
                iterate 4 refine hV.go rfl ?_
                refine topI (V := V) (show u.1 30 0 2 = nI A.2.1.length from (hru u hs).1.1.2.2.2.2.1) ?_
                refine hV.go rfl ?_
                refine topI (V := V) (nI_mul 2 _) ?_
                refine hV.go rfl ?_
                refine And.intro (fun _ => ?_) (fun hc => absurd (show nI (2 * A.2.1.length) ≤ nI j from nI_le (by omega) (by omega)) hc)
                iterate 2 refine hV.go rfl ?_
                have e : j = (mvs A.2.1).length := by rw [mvs_len]; omega
                rw [e] at hJ
                have := ih (i + 1) (by omega) u B (some (vI (nI (rN A.2.1 x.1)))) (some (vI (nI j))) x6 hs hm hJ.next
                rw [← nI_inc i] at this
                exact this
              | succ c2 ih2 =>
                intro j hj u B x6 hs hm hx hJ
                obtain ⟨mm, hmm⟩ : ∃ mm, (mvs A.2.1)[j]? = some mm := ⟨_, List.getElem?_eq_getElem (show j < (mvs A.2.1).length by omega)⟩
                have hxm := List.mem_of_getElem? hx
                have hgm : Gen A.2.1 (cmp x.1 mm) := Rn_gen hpm (n := x.2 + 1) ⟨x.1, mm, (hJ.1.1 x hxm).1, List.mem_of_getElem? hmm, rfl⟩
                have hqr : rN A.2.1 (cmp x.1 mm) < oN A.2.1 := hcp.rnk_lt (cmp x.1 mm) 12 0 rfl
                have hbl := capL B hJ.1.1 hm.2.2.2
                have inj : ∀ y ∈ B, rN A.2.1 y.1 = rN A.2.1 (cmp x.1 mm) → y.1 = cmp x.1 mm := fun y hy e => hcp.rnk_inj hgr (Rn_gen hpm (hJ.1.1 y hy).1) hgm 12 0 rfl (fun j hj => by omega) e
                iterate 4 refine hV.go rfl ?_
                refine topI (V := V) (show u.1 30 0 2 = nI A.2.1.length from (hru u hs).1.1.2.2.2.2.1) ?_
                refine hV.go rfl ?_
                refine topI (V := V) (nI_mul 2 _) ?_
                refine hV.go rfl ?_
                have hlen := mvs_len A.2.1
                refine And.intro (fun hc => ?_) (fun _ => ?_)
                · have hc : nI (2 * A.2.1.length) ≤ nI j := hc
                  rw [nI_leI (by omega) (by omega)] at hc
                  omega
                iterate 4 refine hV.go rfl ?_
                refine And.intro (callP_r (m_moved (po := fun v z => v = some (vI (nI (rN A.2.1 (cmp x.1 mm)))) ∧ Sm [36, 37, 38, 42, 43] u z) G (hru u hs) hxg ho hmm (fun z a => ⟨rfl, a⟩)) (by decide) (by decide) (fun r z hp => ?_)) trivial
                obtain ⟨rfl, hz⟩ := hp
                have hmz : MFw z A.2.1 B := hm.cg (hz 39 (by decide)).1 (hz 40 (by decide)).1
                have hsz := hs.tr (hz.mono (by decide : ∀ k ∈ [36, 37, 38, 42, 43], k ∈ [36, 37, 38, 39, 40, 42, 43]))
                iterate 5 refine hV.go rfl ?_
                refine Exists.intro (rN A.2.1 (cmp x.1 mm)) (And.intro rfl (And.intro (show rN A.2.1 (cmp x.1 mm) < 1500 by omega) ?_))
                by_cases hex : ∃ y ∈ B, y.1 = cmp x.1 mm
                · obtain ⟨y, hy, ey⟩ := hex
                  have hyd := capD _ _ (hJ.1.1 y hy)
                  refine topI (V := V) (show z.1 39 0 (rN A.2.1 (cmp x.1 mm)) = nI y.2 by rw [← ey]; exact hmz.2.1 y hy) ?_
                  refine hV.go rfl ?_
                  refine And.intro (fun _ => ?_) (fun hc => absurd (show nI 0 ≤ nI y.2 from nI_le (by omega) (by omega)) hc)
                  iterate 2 refine hV.go rfl ?_
                  have := ih2 (j + 1) (by omega) z B (some (vI (nI (rN A.2.1 (cmp x.1 mm))))) hsz hmz hx (hJ.same hx hmm ⟨y, hy, ey⟩)
                  rw [← nI_inc j] at this
                  exact this
                · have hno : ∀ y ∈ B, y.1 ≠ cmp x.1 mm := fun y hy e => hex ⟨y, hy, e⟩
                  refine topI (V := V) (hmz.2.2.1 _ hqr (fun y hy e => hno y hy (inj y hy e))) ?_
                  refine hV.go rfl ?_
                  refine And.intro (fun hc => absurd (show (0 : Int32) ≤ -1 from hc) (by decide)) (fun _ => ?_)
                  iterate 7 refine hV.go rfl ?_
                  refine Exists.intro (rN A.2.1 x.1) (And.intro rfl (And.intro (show rN A.2.1 x.1 < 1500 by omega) ?_))
                  refine topI (V := V) (hmz.2.1 x hxm) ?_
                  iterate 2 refine hV.go rfl ?_
                  refine topI (V := V) (nI_1 _) ?_
                  refine hV.go rfl ?_
                  refine Exists.intro (rN A.2.1 (cmp x.1 mm)) (And.intro rfl (And.intro (show rN A.2.1 (cmp x.1 mm) < 1500 by omega) ?_))
                  have hJ' := hJ.add hx hmm hno
                  have hnd : ((B ++ [(cmp x.1 mm, x.2 + 1)]).map (fun x => x.1)).Nodup := by
                    rw [List.map_append, List.map_cons, List.map_nil]
                    refine List.nodup_append.mpr ⟨hm.2.2.2, by simp, fun a ha b hb => ?_⟩
                    rw [List.mem_singleton] at hb
                    obtain ⟨y, hy, rfl⟩ := List.mem_map.mp ha
                    rw [hb]
                    exact hno y hy
                  have hbl2 := capL _ hJ'.1.1 hnd
                  rw [List.length_append, List.length_cons, List.length_nil] at hbl2
                  iterate 5 refine hV.go rfl ?_
                  refine Exists.intro B.length (And.intro rfl (And.intro (show B.length < 1500 by omega) ?_))
                  iterate 3 refine hV.go rfl ?_
                  have := ih2 (j + 1) (by omega) (wI (wI z 39 0 (rN A.2.1 (cmp x.1 mm)) (nI (x.2 + 1))) 40 0 B.length (nI (rN A.2.1 (cmp x.1 mm)))) (B ++ [(cmp x.1 mm, x.2 + 1)]) (some (vI (nI (rN A.2.1 (cmp x.1 mm))))) (Sm.wI (k := 40) (Sm.wI (k := 39) hsz (by decide)) (by decide)) ⟨fun a y hy => ?_, fun y hy => ?_, fun r hr hy => ?_, hnd⟩ (by rw [List.getElem?_append_left (List.getElem?_eq_some_iff.mp hx).1]; exact hx) hJ'
                  · rw [List.length_append, List.length_cons, List.length_nil, ← nI_inc j, ← nI_inc B.length] at this
                    exact this
                  · by_cases ea : a < B.length
                    · rw [List.getElem?_append_left ea] at hy
                      rw [wI_ne (by omega), wI_ne (by omega)]
                      exact hmz.1 a y hy
                    · rw [List.getElem?_append_right (by omega)] at hy
                      have hb2 : a - B.length < 1 := (List.getElem?_eq_some_iff.mp hy).1
                      have ea2 : a = B.length := by omega
                      rw [show a - B.length = 0 by omega] at hy
                      cases hy
                      rw [ea2, wI_eq]
                  · rw [wI_ne (by omega)]
                    rw [List.mem_append, List.mem_singleton] at hy
                    rcases hy with hy | rfl
                    · rw [wI_ne (fun e => hno y hy (inj y hy e.2.2))]
                      exact hmz.2.1 y hy
                    · rw [wI_eq]
                  · rw [wI_ne (by omega), wI_ne (fun e => hy _ (List.mem_append_right _ List.mem_cons_self) e.2.2.symm)]
                    exact hmz.2.2.1 r hr (fun y hy' => hy y (List.mem_append_left _ hy'))
            iterate 3 refine hV.go rfl ?_
            exact inner (mvs A.2.1).length 0 (by omega) u B x6 hs hm hx ⟨hI, x, hx, hxd, fun j' m hj' => by omega⟩
      iterate 3 refine hV.go rfl ?_
      refine And.intro (callP_v (m_orderFrom (k := 0) G hr1 (by decide)) (by decide) (by decide) ?_) trivial
      refine hV.go rfl ?_
      refine topI (V := V) (lN_i _) ?_
      have hop : 0 < oN A.2.1 := hcp.ord_pos (i := 0) (by decide)
      have floop : ∀ c i : Nat, i + c = oN A.2.1 → ∀ u, Sm [39] w1 u → (∀ r, r < i → u.1 39 0 r = -1) → V 22 [some (vR 30), some (vI (nI (oN A.2.1))), some (vI (nI i)), none, none, none, none] [] u 0 := by
        intro c
        induction c with
        | zero =>
          intro i hi u hs hu
          iterate 3 refine hV.go rfl ?_
          refine And.intro (fun _ => ?_) (fun hc => absurd (show nI (oN A.2.1) ≤ nI i from nI_le (by omega) (by omega)) hc)
          iterate 5 refine hV.go rfl ?_
          refine Exists.intro 0 (And.intro rfl (And.intro (show 0 < 1500 by decide) ?_))
          iterate 5 refine hV.go rfl ?_
          refine Exists.intro 0 (And.intro rfl (And.intro (show 0 < 1500 by decide) ?_))
          iterate 4 refine hV.go rfl ?_
          refine outer 1500 0 (by omega) _ [(idp, 0)] none none none (Sm.wI (k := 40) (Sm.wI (k := 39) (hs.mono (by decide)) (by decide)) (by decide)) ⟨fun i x hx => ?_, fun x hx => ?_, fun r hr hx => ?_, by simp⟩ ⟨fun x hx => ?_, fun a b x y _ hx hy => ?_, fun x hx y hy => ?_, fun i' x hi' => by omega, ⟨_, List.mem_cons_self, rfl⟩, fun x hx => ?_, by simp⟩
          · have hb2 : i < 1 := (List.getElem?_eq_some_iff.mp hx).1
            have : i = 0 := by omega
            subst this
            cases hx
            rw [wI_eq]
            show _ = nI (rnk _ idp 12 0)
            rw [rnk_id]
            rfl
          · rw [List.mem_singleton.mp hx]
            show (wI (wI u 39 0 0 0) 40 0 0 0).1 39 0 (rnk _ idp 12 0) = _
            rw [rnk_id, wI_ne (by decide), wI_eq]
            rfl
          · have h0 : rN A.2.1 idp ≠ r := hx _ List.mem_cons_self
            rw [show rN A.2.1 idp = 0 from rnk_id 12 0] at h0
            rw [wI_ne (by omega), wI_ne (by omega)]
            exact hu r (by omega)
          · rw [List.mem_singleton.mp hx]
            exact ⟨rfl, fun n hn => by omega⟩
          · rw [List.mem_singleton.mp (List.mem_of_getElem? hx), List.mem_singleton.mp (List.mem_of_getElem? hy)]
            exact Nat.le_refl _
          · rw [List.mem_singleton.mp hy]
            exact Nat.zero_le _
          · rw [List.mem_singleton.mp hx]
            exact Nat.zero_le _
        | succ c ih =>
          intro i hi u hs hu
          iterate 3 refine hV.go rfl ?_
          refine And.intro (fun hc => ?_) (fun _ => ?_)
          · have hc : nI (oN A.2.1) ≤ nI i := hc
            rw [nI_leI (by omega) (by omega)] at hc
            omega
          iterate 5 refine hV.go rfl ?_
          refine Exists.intro i (And.intro rfl (And.intro (show i < 1500 by omega) ?_))
          iterate 2 refine hV.go rfl ?_
          have := ih (i + 1) (by omega) (wI u 39 0 i (-1)) (Sm.wI (k := 39) hs (by decide)) (fun r hr => by
            by_cases e : r = i
            · rw [e, wI_eq]
            · rw [wI_ne (by omega)]
              exact hu r (by omega))
          rw [← nI_inc i] at this
          exact this
      iterate 3 refine hV.go rfl ?_
      exact floop (oN A.2.1) 0 (by omega) w1 Sm.rf (fun r hr => by omega)
    exact key _ rfl
  · refine topI (V := V) h13 ?_
    refine hV.go rfl ?_
    refine And.intro (fun hc => absurd (show (1 : Int32) = 0 from hc) (by decide)) (fun _ => ?_)
    refine hV.go rfl ?_
    exact ⟨hpo w hw hr hfr rfl Sm.rf, Nat.le_refl _⟩
end
