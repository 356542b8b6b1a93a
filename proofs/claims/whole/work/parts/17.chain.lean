/-! the chain: orbits, takers, makers -/
abbrev CS : Type := (Nat → List Nat) × (Nat → Nat → Nat → Nat) × (Nat → List (Nat → Nat))
abbrev cO (s : CS) : Nat → List Nat := s.1
abbrev cT (s : CS) : Nat → Nat → Nat → Nat := s.2.1
abbrev cM (s : CS) : Nat → List (Nat → Nat) := s.2.2
/-- the world holds the chain -/
def ChL (w : Wd) (s : CS) (k : Nat) : Prop :=
  (cO s k).length ≤ 12 ∧ (cM s k).length ≤ 16 ∧ w.1 22 0 k = nI (cO s k).length ∧ w.1 21 0 k = nI (cM s k).length ∧
  (∀ i p, (cO s k)[i]? = some p → w.1 20 k i = nI p) ∧ (∀ i f, (cM s k)[i]? = some f → w.2 14 k i = rw f) ∧
  (∀ p, p < 12 → (p ∈ cO s k → w.2 16 k p = rw (cT s k p) ∧ w.2 18 k p = rw (iv (cT s k p))) ∧ (p ∉ cO s k → w.2 16 k p = 0))
def ChW (w : Wd) (s : CS) : Prop := ∀ k, k < 12 → ChL w s k
/-- the chain is well made -/
def CW (s : CS) : Prop := ∀ k, k < 12 → (cO s k).Nodup ∧ k ∈ cO s k ∧ cT s k k = idp ∧ (∀ p ∈ cO s k, p < 12 ∧ Pm (cT s k p) ∧ cT s k p k = p ∧ ∀ j, j < k → cT s k p j = j) ∧ ∀ f ∈ cM s k, Pm f ∧ ∀ j, j < k → f j = j
def b2i (b : Bool) : Int32 := match b with
  | true => 1
  | false => 0
theorem b2i_01 (b : Bool) : b2i b = 0 ∨ b2i b = 1 := by cases b <;> simp [b2i]
theorem b2i_ne {b : Bool} : ¬ b2i b = 0 ↔ b = true := by cases b <;> simp [b2i]
theorem b2i_eq {b : Bool} : b2i b = 0 ↔ b = false := by cases b <;> simp [b2i]
/-- can a row be taken apart from level k on -/
def hs (s : CS) : Nat → Nat → (Nat → Nat) → Bool
  | 0, _, _ => true
  | n + 1, k, f => decide (f k ∈ cO s k) && hs s n (k + 1) (cmp f (iv (cT s k (f k))))
theorem lg_eq {x y : Int64} : lg_cmp x y = 0 ↔ x = y := by
  unfold lg_cmp
  split
  · rename_i h
    exact ⟨fun z => absurd z (by decide), fun z => absurd z.symm (lg_lt_ne h)⟩
  · split
    · rename_i h
      exact ⟨fun _ => h, fun _ => rfl⟩
    · rename_i h
      exact ⟨fun z => absurd z (by decide), fun z => absurd z h⟩
section
variable {l : Launch} {E : En}
theorem c_takes {s : CS} {w : Wd} {k p : Nat} (G : GC l E) (hw : ChW w s) (hs : CW s) (hk : k < 12) (hp : p < 12) : Ctr l E 1 0 mX1_takes [vR 2, vI (nI k), vI (nI p)] w (fun r u => r = some (vI (b2i (decide (p ∈ cO s k)))) ∧ u = w) noX := by
  refine Ctr.of (tw := []) G.1 G.2 oX1_ok pgX1_takes rfl (by decide) rfl rfl (Nat.le_of_ble_eq_true rfl) ?_
  intro V hV
  iterate 4 refine hV.go rfl ?_
  refine Exists.intro k (And.intro rfl (And.intro hk ?_))
  iterate 2 refine hV.go rfl ?_
  refine And.intro hk (Exists.intro p (And.intro rfl (And.intro hp ?_)))
  iterate 3 refine hV.go rfl ?_
  obtain ⟨-, -, -, -, -, -, h7⟩ := hw k hk
  obtain ⟨h8, h9⟩ := h7 p hp
  refine And.intro (fun hc => ?_) (fun hc => ?_)
  · have hc : w.2 16 k p = 0 := lg_eq.mp hc
    have hn : p ∉ cO s k := fun z => rw_ne0 ((hs k hk).2.2.2.1 p z).2.1 (by rw [← (h8 z).1]; exact hc)
    repeat refine hV.go rfl ?_
    exact ⟨Or.inl rfl, ⟨by simp [hn, b2i], rfl⟩, Nat.le_refl _⟩
  · have hc : ¬ w.2 16 k p = 0 := fun z => hc (lg_eq.mpr z)
    have hn : p ∈ cO s k := Classical.byContradiction fun z => hc (h9 z)
    repeat refine hV.go rfl ?_
    exact ⟨Or.inr rfl, ⟨by simp [hn, b2i], rfl⟩, Nat.le_refl _⟩
theorem c_holdsFrom {s : CS} {w : Wd} {k0 : Nat} {f : Nat → Nat} (G : GC l E) (hw : ChW w s) (hcw : CW s) (hk0 : k0 ≤ 12) (hf : Pm f) : Ctr l E 2 0 mX1_holdsFrom [vR 2, vI (nI k0), vJ (rw f)] w (fun r u => r = some (vI (b2i (hs s (12 - k0) k0 f))) ∧ u = w) noX := by
  refine Ctr.of (tw := []) G.1 G.2 oX1_ok pgX1_holdsFrom rfl (by decide) rfl rfl (Nat.le_of_ble_eq_true rfl) ?_
  intro V hV
  have loop : ∀ n k : Nat, k + n = 12 → ∀ g, Pm g → hs s n k g = hs s (12 - k0) k0 f → ∀ x7 : Option AV, V 6 [some (vR 2), some (vI (nI k0)), some (vJ (rw f)), none, some (vJ (rw g)), none, some (vI (nI k)), x7] [] w 0 := by
    intro n
    induction n with
    | zero =>
      intro k hk g hg he x7
      have : k = 12 := by omega
      subst this
      repeat refine hV.go rfl ?_
      refine And.intro (fun hc => ?_) (fun hc => ?_)
      · repeat refine hV.go rfl ?_
        exact ⟨Or.inr rfl, ⟨by rw [← he]; rfl, rfl⟩, Nat.le_refl _⟩
      · exact absurd (show nI 12 ≤ nI 12 from nI_le (Nat.le_refl _) (by decide)) hc
    | succ n ih =>
      intro k hk g hg he x7
      have hk : k < 12 := by omega
      have hgk : g k < 12 := hg.1 k hk
      repeat refine hV.go rfl ?_
      refine And.intro (fun hc => ?_) (fun hc => ?_)
      · have hc : nI 12 ≤ nI k := hc
        rw [nI_leI (by decide) (by omega)] at hc
        omega
      · repeat refine hV.go rfl ?_
        refine And.intro (callP_v (c_at G hg.lt16 hk w) (by decide) (by decide) ?_) trivial
        repeat refine hV.go rfl ?_
        refine And.intro (callP_v (c_takes G hw hcw hk hgk) (by decide) (by decide) ?_) trivial
        refine hV.go rfl ?_
        refine And.intro (fun hc => ?_) (fun hc => ?_)
        · have hin : g k ∈ cO s k := of_decide_eq_true (b2i_ne.mp hc)
          obtain ⟨-, -, -, -, -, -, h7⟩ := hw k hk
          have h8 := ((h7 (g k) hgk).1 hin).2
          have hT := (hcw k hk).2.2.2.1 _ hin
          have he2 : hs s n (k + 1) (cmp g (iv (cT s k (g k)))) = hs s (12 - k0) k0 f := by
            rw [← he]
            simp [hs, hin]
          repeat refine hV.go rfl ?_
          refine And.intro (fun hc => ?_) (fun hc => ?_)
          · have hc : g k = k := (nI_eq (by omega) (by omega)).mp hc
            iterate 2 refine hV.go rfl ?_
            have e3 : cmp g (iv (cT s k (g k))) = g := by rw [hc, (hcw k hk).2.2.1, iv_id]; rfl
            rw [e3] at he2
            have := ih (k + 1) (by omega) g hg he2 (some (vI (nI (g k))))
            rw [← nI_inc] at this
            exact this
          · repeat refine hV.go rfl ?_
            refine Exists.intro k (And.intro rfl (And.intro hk ?_))
            repeat refine hV.go rfl ?_
            refine And.intro hk (Exists.intro (g k) (And.intro rfl (And.intro hgk ?_)))
            refine topJ (V := V) h8 ?_
            refine hV.go rfl ?_
            refine And.intro (callP_v (c_then G hg.1 hT.2.1.iv.lt16 w) (by decide) (by decide) ?_) trivial
            iterate 3 refine hV.go rfl ?_
            have := ih (k + 1) (by omega) (cmp g (iv (cT s k (g k)))) (hg.cmp hT.2.1.iv) he2 (some (vI (nI (g k))))
            rw [← nI_inc] at this
            exact this
        · have hc : b2i (decide (g k ∈ cO s k)) = 0 := Classical.not_not.mp hc
          have hin := b2i_eq.mp hc
          repeat refine hV.go rfl ?_
          exact ⟨Or.inl rfl, ⟨by rw [← he]; simp [hs, of_decide_eq_false hin, b2i], rfl⟩, Nat.le_refl _⟩
  iterate 4 refine hV.go rfl ?_
  exact loop (12 - k0) k0 (by omega) f hf rfl _
theorem c_holds {s : CS} {w : Wd} {f : Nat → Nat} (G : GC l E) (hw : ChW w s) (hcw : CW s) (hf : Pm f) : Ctr l E 3 0 mX1_holds [vR 2, vJ (rw f)] w (fun r u => r = some (vI (b2i (hs s 12 0 f))) ∧ u = w) noX := by
  refine Ctr.of (tw := []) G.1 G.2 oX1_ok pgX1_holds rfl (by decide) rfl rfl (Nat.le_of_ble_eq_true rfl) ?_
  intro V hV
  repeat refine hV.go rfl ?_
  refine And.intro (callP_v (c_holdsFrom (k0 := 0) G hw hcw (by decide) hf) (by decide) (by decide) ?_) trivial
  refine hV.go rfl ?_
  exact ⟨b2i_01 _, ⟨rfl, rfl⟩, Nat.le_refl _⟩
theorem c_orbitSize {s : CS} {w : Wd} {k : Nat} (G : GC l E) (hw : ChW w s) (hk : k < 12) : Ctr l E 1 0 mX1_orbitSize [vR 2, vI (nI k)] w (fun r u => r = some (vI (nI (cO s k).length)) ∧ u = w) noX := by
  refine Ctr.of (tw := []) G.1 G.2 oX1_ok pgX1_orbitSize rfl (by decide) rfl rfl (Nat.le_of_ble_eq_true rfl) ?_
  intro V hV
  repeat refine hV.go rfl ?_
  refine Exists.intro k (And.intro rfl (And.intro hk ?_))
  refine topI (V := V) (hw k hk).2.2.1 ?_
  refine hV.go rfl ?_
  exact ⟨⟨rfl, rfl⟩, Nat.le_refl _⟩
end
