/-- how many rows a chain has from level k on -/
def cfr (s : CS) : Nat → Nat → Nat
  | 0, _ => 1
  | n + 1, k => (cO s k).length * cfr s n (k + 1)
section
variable {l : Launch} {E : En}
theorem c_countFrom {w : Wd} {s : CS} {k0 : Nat} (G : GC l E) (hw : ChW w s) (hk0 : k0 ≤ 12) : Ctr l E 1 0 mX1_countFrom [vR 2, vI (nI k0)] w (fun r u => r = some (vJ (lN (cfr s (12 - k0) k0))) ∧ u = w) noX := by
  refine Ctr.of (tw := []) G.1 G.2 oX1_ok pgX1_countFrom rfl (by decide) rfl rfl (Nat.le_of_ble_eq_true rfl) ?_
  intro V hV
  have loop : ∀ n k : Nat, k + n = 12 → ∀ a : Nat, a * cfr s n k = cfr s (12 - k0) k0 → V 5 [some (vR 2), some (vI (nI k0)), some (vJ (lN a)), none, some (vI (nI k))] [] w 0 := by
    intro n
    induction n with
    | zero =>
      intro k hk a ha
      have : k = 12 := by omega
      subst this
      repeat refine hV.go rfl ?_
      refine And.intro (fun hc => ?_) (fun hc => ?_)
      · repeat refine hV.go rfl ?_
        refine ⟨⟨?_, rfl⟩, Nat.le_refl _⟩
        rw [← ha]
        simp [cfr]
      · exact absurd (show nI 12 ≤ nI 12 from nI_le (Nat.le_refl _) (by omega)) hc
    | succ n ih =>
      intro k hk a ha
      have hk : k < 12 := by omega
      repeat refine hV.go rfl ?_
      refine And.intro (fun hc => ?_) (fun hc => ?_)
      · have hc : nI 12 ≤ nI k := hc
        rw [nI_leI (by omega) (by omega)] at hc
        omega
      · repeat refine hV.go rfl ?_
        refine Exists.intro k (And.intro rfl (And.intro hk ?_))
        refine topI (V := V) (hw k hk).2.2.1 ?_
        have hl12 := (hw k hk).1
        refine hV.go rfl ?_
        refine topJ (V := V) (nI_l (by omega)) ?_
        refine hV.go rfl ?_
        refine topJ (V := V) (lN_mul _ _) ?_
        iterate 3 refine hV.go rfl ?_
        have := ih (k + 1) (by omega) (a * (cO s k).length) (by rw [← ha, Nat.mul_assoc]; rfl)
        rw [← nI_inc] at this
        exact this
  iterate 4 refine hV.go rfl ?_
  exact loop (12 - k0) k0 (by omega) 1 (Nat.one_mul _)
/-- how many of a list lead takes below x -/
def cls (A : List Nat) (ld : Nat → Nat) (x : Nat) : Nat := A.countP (fun p => decide (ld p < x))
theorem c_countLesser {w : Wd} {s : CS} {k x : Nat} {ld : Nat → Nat} (G : GC l E) (hw : ChW w s) (hcw : CW s) (hk : k < 12) (hld : Pm ld) (hx : x < 12) : Ctr l E 2 0 mX1_countLesser [vR 2, vI (nI k), vJ (rw ld), vI (nI x)] w (fun r u => r = some (vI (nI (cls (cO s k) ld x))) ∧ u = w) noX := by
  refine Ctr.of (tw := []) G.1 G.2 oX1_ok pgX1_countLesser rfl (by decide) rfl rfl (Nat.le_of_ble_eq_true rfl) ?_
  intro V hV
  obtain ⟨h1, -, h3, -, h5, -, -⟩ := hw k hk
  have loop : ∀ n i : Nat, i + n = (cO s k).length → V 6 [some (vR 2), some (vI (nI k)), some (vJ (rw ld)), none, some (vI (nI x)), some (vI (nI (cls ((cO s k).take i) ld x))), some (vI (nI i))] [] w 0 := by
    intro n
    induction n with
    | zero =>
      intro i hi
      repeat refine hV.go rfl ?_
      refine Exists.intro k (And.intro rfl (And.intro hk ?_))
      refine topI (V := V) h3 ?_
      refine hV.go rfl ?_
      refine And.intro (fun hc => ?_) (fun hc => ?_)
      · repeat refine hV.go rfl ?_
        refine ⟨⟨?_, rfl⟩, Nat.le_refl _⟩
        rw [List.take_of_length_le (by omega)]
      · exact absurd (show nI (cO s k).length ≤ nI i from nI_le (by omega) (by omega)) hc
    | succ n ih =>
      intro i hi
      have hil : i < (cO s k).length := by omega
      repeat refine hV.go rfl ?_
      refine Exists.intro k (And.intro rfl (And.intro hk ?_))
      refine topI (V := V) h3 ?_
      refine hV.go rfl ?_
      refine And.intro (fun hc => ?_) (fun hc => ?_)
      · have hc : nI (cO s k).length ≤ nI i := hc
        rw [nI_leI (by omega) (by omega)] at hc
        omega
      · have hget : (cO s k)[i]? = some (cO s k)[i] := List.getElem?_eq_getElem hil
        have hp := ((hcw k hk).2.2.2.1 _ (List.getElem_mem hil)).1
        have e1 : cls ((cO s k).take (i + 1)) ld x = cls ((cO s k).take i) ld x + if ld (cO s k)[i] < x then 1 else 0 := by
          unfold cls
          rw [List.take_add_one, hget, List.countP_append]
          simp [List.countP_cons]
        repeat refine hV.go rfl ?_
        refine Exists.intro k (And.intro rfl (And.intro hk ?_))
        repeat refine hV.go rfl ?_
        refine And.intro hk (Exists.intro i (And.intro rfl (And.intro (by omega) ?_)))
        refine topI (V := V) (h5 i _ hget) ?_
        refine hV.go rfl ?_
        refine And.intro (callP_v (c_at G hld.lt16 hp w) (by decide) (by decide) ?_) trivial
        have hlp := hld.1 _ hp
        repeat refine hV.go rfl ?_
        refine And.intro (fun hc => ?_) (fun hc => ?_)
        · have hc : nI x ≤ nI (ld (cO s k)[i]) := hc
          rw [nI_leI (by omega) (by omega)] at hc
          iterate 2 refine hV.go rfl ?_
          have := ih (i + 1) (by omega)
          rw [e1, if_neg (by omega), Nat.add_zero, ← nI_inc] at this
          exact this
        · have hc : ¬ nI x ≤ nI (ld (cO s k)[i]) := hc
          rw [nI_leI (by omega) (by omega)] at hc
          iterate 3 refine hV.go rfl ?_
          have := ih (i + 1) (by omega)
          rw [e1, if_pos (by omega), ← nI_inc, ← nI_inc] at this
          exact this
  iterate 4 refine hV.go rfl ?_
  exact loop (cO s k).length 0 (by omega)
end
