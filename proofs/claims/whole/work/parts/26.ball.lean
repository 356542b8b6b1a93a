/-! the ball: rows with distances, and the slots where they are found -/
abbrev BL : Type := List ((Nat → Nat) × Nat)
def BaW (w : Wd) (B : BL) (sl : Nat → Nat) : Prop := w.1 3 0 3 = nI B.length ∧ B.length ≤ 1500 ∧ (∀ i x, B[i]? = some x → w.2 10 0 i = rw x.1 ∧ w.1 11 0 i = nI x.2) ∧ ∀ j, j < 4096 → w.1 12 0 j = nI (sl j)
def spr : Int64 := -7046029254386353131
def hsh (f : Nat → Nat) : Nat := (rw f * spr).toBitVec.toNat / 2 ^ 52
theorem hsh_lt (f : Nat → Nat) : hsh f < 4096 := by
  unfold hsh
  have := (rw f * spr).toBitVec.isLt
  omega
theorem hsh_eq (f : Nat → Nat) : ((rw f * spr).toUInt64 >>> (((Int8.ofInt 52).toInt32).toInt64.toUInt64 &&& Int64.toUInt64 63)).toInt64.toInt32 = nI (hsh f) := by
  obtain ⟨n, hn, e⟩ := wb_of (rw f * spr)
  unfold hsh
  rw [e, show (Int8.ofInt 52).toInt32 = nI 52 from rfl, wb_shr hn (by decide), lN_i, wb_tn hn]
/-- the slots: each member has one, on a way without a free slot -/
def HT (B : BL) (sl : Nat → Nat) : Prop := (∀ j, j < 4096 → sl j ≤ B.length) ∧ (∀ i j, i < 4096 → j < 4096 → sl i = sl j → sl i ≠ 0 → i = j) ∧ (B.map (fun x => x.1)).Nodup ∧ (∀ x ∈ B, Pm x.1) ∧
  ∀ i x, B[i]? = some x → ∃ d, d < 4096 ∧ sl ((hsh x.1 + d) % 4096) = i + 1 ∧ ∀ e, e < d → sl ((hsh x.1 + e) % 4096) ≠ 0
def SlS (B : BL) (sl : Nat → Nat) (f : Nat → Nat) (j : Nat) : Prop := j < 4096 ∧ (∃ d, d < 4096 ∧ j = (hsh f + d) % 4096 ∧ ∀ e, e < d → sl ((hsh f + e) % 4096) ≠ 0) ∧ ((∃ i x, B[i]? = some x ∧ x.1 = f ∧ sl j = i + 1) ∨ (sl j = 0 ∧ ∀ x ∈ B, x.1 ≠ f))
theorem HT.full {B : BL} {sl : Nat → Nat} (h : HT B sl) (hl : B.length ≤ 1500) (s0 : Nat) : ∃ d, d < 4096 ∧ sl ((s0 + d) % 4096) = 0 := by
  refine Classical.byContradiction fun hx => ?_
  have hne : ∀ d, d < 4096 → sl ((s0 + d) % 4096) ≠ 0 := fun d hd z => hx ⟨d, hd, z⟩
  obtain ⟨i, j, hij, hj, e⟩ := fb_twice (m := 1501) (n := 4096) (f := fun d => sl ((s0 + d) % 4096)) (fun d hd => by
    have := h.1 ((s0 + d) % 4096) (by omega)
    show sl ((s0 + d) % 4096) < 1501
    omega) (by decide)
  have := h.2.1 ((s0 + i) % 4096) ((s0 + j) % 4096) (by omega) (by omega) e (hne i (by omega))
  omega
abbrev baK : List Nat := [3, 10, 11, 12]
section
variable {l : Launch} {E : En}
theorem c_slotOf {w : Wd} {B : BL} {sl : Nat → Nat} {f : Nat → Nat} (G : GC l E) (hw : BaW w B sl) (hH : HT B sl) (hf : Pm f) : Ctr l E 1 0 mX0_slotOf [vR 3, vJ (rw f)] w (fun r u => (∃ j, r = some (vI (nI j)) ∧ SlS B sl f j) ∧ u = w) noX := by
  refine Ctr.of (tw := []) G.1 G.2 oX0_ok pgX0_slotOf rfl (by decide) rfl rfl (Nat.le_of_ble_eq_true rfl) ?_
  intro V hV
  obtain ⟨w1, w2, w3, w4⟩ := hw
  have hfull := hH.full w2 (hsh f)
  have loop : ∀ c d : Nat, d + c = 4096 → (∀ e, e < d → sl ((hsh f + e) % 4096) ≠ 0 ∧ ∀ i x, sl ((hsh f + e) % 4096) = i + 1 → B[i]? = some x → x.1 ≠ f) → V 13 [some (vR 3), some (vJ (rw f)), none, some (vI (nI ((hsh f + d) % 4096))), some (vI (nI d))] [] w 0 := by
    intro c
    induction c with
    | zero =>
      intro d hd hpre
      obtain ⟨e, he, hz⟩ := hfull
      exact absurd hz (hpre e (by omega)).1
    | succ c ih =>
      intro d hd hpre
      have hj : (hsh f + d) % 4096 < 4096 := Nat.mod_lt _ (by decide)
      repeat refine hV.go rfl ?_
      refine And.intro (fun hc => ?_) (fun hc => ?_)
      · have hc : nI 4096 ≤ nI d := hc
        rw [nI_leI (by omega) (by omega)] at hc
        omega
      · repeat refine hV.go rfl ?_
        refine Exists.intro _ (And.intro rfl (And.intro hj ?_))
        refine topI (V := V) (w4 _ hj) ?_
        have hsl := hH.1 _ hj
        refine hV.go rfl ?_
        refine And.intro (fun hc => ?_) (fun hc => ?_)
        · have hc : sl ((hsh f + d) % 4096) = 0 := (nI_eq (by omega) (by omega)).mp (show nI _ = nI 0 from hc)
          repeat refine hV.go rfl ?_
          refine ⟨⟨⟨_, rfl, hj, ⟨d, by omega, rfl, fun e he => (hpre e he).1⟩, Or.inr ⟨hc, fun x hx ef => ?_⟩⟩, rfl⟩, Nat.le_refl _⟩
          obtain ⟨i, hi⟩ := List.getElem?_of_mem hx
          obtain ⟨d', h1, h2, h3⟩ := hH.2.2.2.2 i x hi
          rw [ef] at h2 h3
          rcases Nat.lt_trichotomy d' d with q | q | q
          · exact (hpre d' q).2 i x h2 hi ef
          · subst q
            omega
          · exact h3 d q hc
        · have hc : ¬ sl ((hsh f + d) % 4096) = 0 := fun z => hc (show nI _ = nI 0 by rw [z])
          obtain ⟨i, hi⟩ : ∃ i, sl ((hsh f + d) % 4096) = i + 1 := ⟨sl ((hsh f + d) % 4096) - 1, by omega⟩
          obtain ⟨x, hx⟩ : ∃ x, B[i]? = some x := ⟨_, List.getElem?_eq_getElem (show i < B.length by omega)⟩
          have hxm := List.mem_of_getElem? hx
          have hil : i < B.length := by omega
          repeat refine hV.go rfl ?_
          refine Exists.intro _ (And.intro rfl (And.intro hj ?_))
          refine topI (V := V) (w4 _ hj) ?_
          rw [hi]
          iterate 2 refine hV.go rfl ?_
          refine topI (V := V) (nI_pred i) ?_
          refine hV.go rfl ?_
          refine Exists.intro i (And.intro rfl (And.intro (show i < 1500 by omega) ?_))
          refine topJ (V := V) (w3 i x hx).1 ?_
          iterate 3 refine hV.go rfl ?_
          refine And.intro (fun hc2 => ?_) (fun hc2 => ?_)
          · have hc2 : x.1 ≠ f := fun z => hc2 (lg_eq.mpr (by rw [z]))
            iterate 3 refine hV.go rfl ?_
            refine topI (V := V) (nI_1 _) ?_
            iterate 2 refine hV.go rfl ?_
            refine topI (V := V) (pk_andN (m := (Int16.ofInt 4095).toInt32) (by omega) 12 (by decide)) ?_
            iterate 3 refine hV.go rfl ?_
            have := ih (d + 1) (by omega) (fun e he => by
              by_cases q : e = d
              · subst q
                refine ⟨hc, fun i' x' hi' hx' => ?_⟩
                have : i' = i := by omega
                subst this
                rw [hx] at hx'
                cases hx'
                exact hc2
              · exact hpre e (by omega))
            rw [show (hsh f + (d + 1)) % 4096 = ((hsh f + d) % 4096 + 1) % 2 ^ 12 by omega, ← nI_inc] at this
            exact this
          · have hc2 : lg_cmp (rw x.1) (rw f) = 0 := Classical.not_not.mp hc2
            have he : x.1 = f := rw_inj (hH.2.2.2.1 x hxm) hf (lg_eq.mp hc2)
            repeat refine hV.go rfl ?_
            exact ⟨⟨⟨_, rfl, hj, ⟨d, by omega, rfl, fun e he => (hpre e he).1⟩, Or.inl ⟨i, x, hx, he, hi⟩⟩, rfl⟩, Nat.le_refl _⟩
  iterate 6 refine hV.go rfl ?_
  refine topI (V := V) (hsh_eq f) ?_
  iterate 3 refine hV.go rfl ?_
  have := loop 4096 0 (by omega) (fun e he => by omega)
  rw [Nat.add_zero, Nat.mod_eq_of_lt (hsh_lt f)] at this
  exact this
theorem c_farOf {w : Wd} {B : BL} {sl : Nat → Nat} {f : Nat → Nat} {po : Option AV → Wd → Prop} (G : GC l E) (hw : BaW w B sl) (hH : HT B sl) (hf : Pm f) (h1 : ∀ d, (f, d) ∈ B → po (some (vI (nI d))) w) (h2 : (∀ x ∈ B, x.1 ≠ f) → po (some (vI (-1))) w) : Ctr l E 2 0 mX0_farOf [vR 3, vJ (rw f)] w po noX := by
  refine Ctr.of (tw := []) G.1 G.2 oX0_ok pgX0_farOf rfl (by decide) rfl rfl (Nat.le_of_ble_eq_true rfl) ?_
  intro V hV
  obtain ⟨w1, w2, w3, w4⟩ := id hw
  repeat refine hV.go rfl ?_
  refine And.intro (callP_r (c_slotOf G hw hH hf) (by decide) (by decide) (fun r u hp => ?_)) trivial
  obtain ⟨⟨j, rfl, hj, -, hS⟩, rfl⟩ := hp
  have hsl := hH.1 _ hj
  repeat refine hV.go rfl ?_
  refine Exists.intro j (And.intro rfl (And.intro hj ?_))
  refine topI (V := V) (w4 _ hj) ?_
  refine hV.go rfl ?_
  refine And.intro (fun hc => ?_) (fun hc => ?_)
  · have hc : sl j ≠ 0 := fun z => hc (show nI _ = nI 0 by rw [z])
    rcases hS with ⟨i, x, hx, e, hi⟩ | ⟨z, -⟩
    · have hil := (List.getElem?_eq_some_iff.mp hx).1
      repeat refine hV.go rfl ?_
      refine Exists.intro j (And.intro rfl (And.intro hj ?_))
      refine topI (V := V) (w4 _ hj) ?_
      rw [hi]
      iterate 2 refine hV.go rfl ?_
      refine topI (V := V) (nI_pred i) ?_
      refine hV.go rfl ?_
      refine Exists.intro i (And.intro rfl (And.intro (show i < 1500 by omega) ?_))
      refine topI (V := V) (w3 i x hx).2 ?_
      refine hV.go rfl ?_
      refine ⟨h1 x.2 ?_, Nat.le_refl _⟩
      rw [← e]
      exact List.mem_of_getElem? hx
    · exact absurd z hc
  · have hc : sl j = 0 := (nI_eq (by omega) (by omega)).mp (show nI _ = nI 0 from Classical.not_not.mp hc)
    rcases hS with ⟨i, x, hx, e, hi⟩ | ⟨-, z⟩
    · omega
    · repeat refine hV.go rfl ?_
      exact ⟨h2 z, Nat.le_refl _⟩
theorem c_baAdmit {w : Wd} {B : BL} {sl : Nat → Nat} {f : Nat → Nat} {d : Nat} {po : Option AV → Wd → Prop} (G : GC l E) (hw : BaW w B sl) (hH : HT B sl) (hf : Pm f) (hcap : (∀ x ∈ B, x.1 ≠ f) → B.length < 1500) (h1 : (∃ x ∈ B, x.1 = f) → po none w) (h2 : (∀ x ∈ B, x.1 ≠ f) → ∀ u sl', BaW u (B ++ [(f, d)]) sl' → HT (B ++ [(f, d)]) sl' → Sm baK w u → po none u) : Ctr l E 2 0 mX0_admit [vR 3, vJ (rw f), vI (nI d)] w po noX := by
  refine Ctr.of (tw := []) G.1 G.2 oX0_ok pgX0_admit rfl (by decide) rfl rfl (Nat.le_of_ble_eq_true rfl) ?_
  intro V hV
  obtain ⟨w1, w2, w3, w4⟩ := id hw
  repeat refine hV.go rfl ?_
  refine And.intro (callP_r (c_slotOf G hw hH hf) (by decide) (by decide) (fun r u hp => ?_)) trivial
  obtain ⟨⟨j, rfl, hj, ⟨d0, hd0, hjd, hpath⟩, hS⟩, rfl⟩ := hp
  have hsl := hH.1 _ hj
  repeat refine hV.go rfl ?_
  refine Exists.intro j (And.intro rfl (And.intro hj ?_))
  refine topI (V := V) (w4 _ hj) ?_
  refine hV.go rfl ?_
  refine And.intro (fun hc => ?_) (fun hc => ?_)
  · have hc : sl j ≠ 0 := fun z => hc (show nI _ = nI 0 by rw [z])
    rcases hS with ⟨i, x, hx, e, hi⟩ | ⟨z, -⟩
    · refine hV.go rfl ?_
      exact ⟨h1 ⟨x, List.mem_of_getElem? hx, e⟩, Nat.le_refl _⟩
    · exact absurd z hc
  · have hc : sl j = 0 := (nI_eq (by omega) (by omega)).mp (show nI _ = nI 0 from Classical.not_not.mp hc)
    rcases hS with ⟨i, x, hx, e, hi⟩ | ⟨-, hz⟩
    · omega
    · have hlt := hcap hz
      iterate 2 refine hV.go rfl ?_
      refine topI (V := V) w1 ?_
      iterate 2 refine hV.go rfl ?_
      refine And.intro (fun hc2 => ?_) (fun hc2 => ?_)
      · have hc2 : nI 1500 ≤ nI B.length := hc2
        rw [nI_leI (by omega) (by omega)] at hc2
        omega
      · iterate 4 refine hV.go rfl ?_
        refine topI (V := V) w1 ?_
        iterate 2 refine hV.go rfl ?_
        refine Exists.intro B.length (And.intro rfl (And.intro hlt ?_))
        iterate 4 refine hV.go rfl ?_
        refine topI (V := V) (y := nI B.length) (by rw [wJ_1]; exact w1) ?_
        iterate 2 refine hV.go rfl ?_
        refine Exists.intro B.length (And.intro rfl (And.intro hlt ?_))
        iterate 3 refine hV.go rfl ?_
        refine topI (V := V) (y := nI B.length) (by simp only [wI_get, wJ_1]; simpa using w1) ?_
        iterate 2 refine hV.go rfl ?_
        refine topI (V := V) (nI_1 _) ?_
        iterate 6 refine hV.go rfl ?_
        refine topI (V := V) (y := nI (B.length + 1)) (by simp [wI_get]) ?_
        refine hV.go rfl ?_
        refine Exists.intro j (And.intro rfl (And.intro hj ?_))
        refine hV.go rfl ?_
        refine ⟨h2 hz _ (fun k => if k = j then B.length + 1 else sl k) ?_ ?_ (Sm.wI (k := 12) (Sm.wI (k := 3) (Sm.wI (k := 11) (Sm.wJ (k := 10) Sm.rf (by decide)) (by decide)) (by decide)) (by decide)), Nat.le_refl _⟩
        · refine ⟨?_, ?_, fun i x hx => ?_, fun k hk => ?_⟩
          · simp only [wI_get, wJ_1]
            simp
          · simp only [List.length_append, List.length_cons, List.length_nil]; omega
          · simp only [wI_get, wI_2, wJ_get, wJ_1]
            by_cases hi : i < B.length
            · rw [List.getElem?_append_left hi] at hx
              have := w3 i x hx
              simpa [show ¬ i = B.length by omega] using this
            · rw [List.getElem?_append_right (by omega)] at hx
              have hi2 : i - B.length < 1 := (List.getElem?_eq_some_iff.mp hx).1
              have hi3 : i = B.length := by omega
              subst hi3
              simp at hx
              subst hx
              simp
          · simp only [wI_get, wJ_1]
            by_cases hk2 : k = j
            · subst hk2
              simp
            · have := w4 k hk
              simpa [hk2] using this
        · refine ⟨fun k hk => ?_, fun a b ha hb e h0 => ?_, ?_, fun x hx => ?_, fun i x hx => ?_⟩
          · simp only [List.length_append, List.length_cons, List.length_nil]
            split
            · omega
            · have := hH.1 k hk; omega
          · simp only at e h0
            have sa := hH.1 a ha
            have sb := hH.1 b hb
            by_cases q1 : a = j
            · by_cases q2 : b = j
              · omega
              · rw [if_pos q1, if_neg q2] at e
                omega
            · by_cases q2 : b = j
              · rw [if_neg q1, if_pos q2] at e
                omega
              · rw [if_neg q1, if_neg q2] at e
                rw [if_neg q1] at h0
                exact hH.2.1 a b ha hb e h0
          · rw [List.map_append, List.nodup_append]
            refine ⟨hH.2.2.1, by simp, fun a ha b hb e => ?_⟩
            obtain ⟨x, hx, rfl⟩ := List.mem_map.mp ha
            simp at hb
            subst hb
            exact hz x hx e
          · rw [List.mem_append, List.mem_singleton] at hx
            rcases hx with hx | rfl
            · exact hH.2.2.2.1 x hx
            · exact hf
          · by_cases hi : i < B.length
            · rw [List.getElem?_append_left hi] at hx
              obtain ⟨d', e1, e2, e3⟩ := hH.2.2.2.2 i x hx
              refine ⟨d', e1, ?_, fun e he => ?_⟩
              · simp only
                split
                · rename_i q
                  rw [q] at e2
                  omega
                · exact e2
              · simp only
                split
                · omega
                · exact e3 e he
            · rw [List.getElem?_append_right (by omega)] at hx
              have hi2 : i - B.length < 1 := (List.getElem?_eq_some_iff.mp hx).1
              have hi3 : i = B.length := by omega
              subst hi3
              simp at hx
              subst hx
              refine ⟨d0, hd0, ?_, fun e he => ?_⟩
              · simp only
                rw [if_pos hjd.symm]
              · simp only
                split
                · omega
                · exact hpath e he
end
