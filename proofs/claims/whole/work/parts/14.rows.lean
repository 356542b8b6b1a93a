/-! Rows: the contracts -/
abbrev gkC : Nat → Bool := fun k => Nat.blt k 30
abbrev gkM : Nat → Bool := fun k => Nat.ble 30 k && Nat.blt k 50
/-- launch and cells of the class -/
def GC (l : Launch) (E : En) : Prop := l.stackTraces = false ∧ EK E gkC
def GM (l : Launch) (E : En) : Prop := l.stackTraces = false ∧ EK E gkM
abbrev noX : String → Wd → Prop := fun _ _ => False
theorem callP_v {l : Launch} {E : En} {D B d : Nat} {mi : MI} {As : List AV} {w : Wd} {c : Nat} {K : Option AV → Wd → Nat → Prop} {X : String → Wd → Nat → Prop} {v : Option AV} (h : Ctr l E d 0 mi As w (fun r u => r = v ∧ u = w) noX) (hd : d < D) (hb : c ≤ B) (k : K v w c) : callP l E D B mi As w c K X :=
  ⟨d, 0, _, _, hd, hb, h, fun r u hp => by obtain ⟨rfl, rfl⟩ := hp; exact k, fun X u hx => hx.elim⟩
theorem callP_r {l : Launch} {E : En} {D B d : Nat} {mi : MI} {As : List AV} {w : Wd} {c : Nat} {K : Option AV → Wd → Nat → Prop} {X : String → Wd → Nat → Prop} {po : Option AV → Wd → Prop} (h : Ctr l E d 0 mi As w po noX) (hd : d < D) (hb : c ≤ B) (k : ∀ r u, po r u → K r u c) : callP l E D B mi As w c K X :=
  ⟨d, 0, _, _, hd, hb, h, k, fun X u hx => hx.elim⟩
section
variable {l : Launch} {E : En}
theorem c_at {f : Nat → Nat} {i : Nat} (G : GC l E) (hf : lt16 f) (hi : i < 12) (w : Wd) : Ctr l E 1 0 mX2_at [vJ (rw f), vI (nI i)] w (fun r u => r = some (vI (nI (f i))) ∧ u = w) noX := by
  refine Ctr.of (tw := []) G.1 G.2 oX2_ok pgX2_at rfl (by decide) rfl rfl (Nat.le_of_ble_eq_true rfl) ?_
  intro V hV
  repeat refine hV.go rfl ?_
  exact ⟨⟨congrArg (fun x => some (vI x)) (rw_at hf hi), rfl⟩, Nat.le_refl _⟩
theorem c_then {f g : Nat → Nat} (G : GC l E) (hf : ∀ i, i < 12 → f i < 12) (hg : lt16 g) (w : Wd) : Ctr l E 1 0 mX2_then [vJ (rw f), vJ (rw g)] w (fun r u => r = some (vJ (rw (fun i => g (f i)))) ∧ u = w) noX := by
  refine Ctr.of (tw := []) G.1 G.2 oX2_ok pgX2_then rfl (by decide) rfl rfl (Nat.le_of_ble_eq_true rfl) ?_
  intro V hV
  have hh : lt16 (fun i => g (f i)) := fun i hi => hg _ (hf i hi)
  have hf6 : lt16 f := fun i hi => Nat.lt_trans (hf i hi) (by decide)
  have loop : ∀ k j : Nat, j + k = 12 → ∀ x7 : Option AV, V 6 [some (vJ (rw f)), none, some (vJ (rw g)), none, some (vJ (lN (enc (fun i => g (f i)) j))), none, some (vI (nI (4 * j))), x7] [] w 0 := by
    intro k
    induction k with
    | zero =>
      intro j hj x7
      have : j = 12 := by omega
      subst this
      repeat refine hV.go rfl ?_
      refine And.intro (fun hc => ?_) (fun hc => ?_)
      · repeat refine hV.go rfl ?_
        exact ⟨⟨rfl, rfl⟩, Nat.le_refl _⟩
      · exact absurd (show nI 48 ≤ nI 48 from nI_le (Nat.le_refl _) (by decide)) hc
    | succ k ih =>
      intro j hj x7
      repeat refine hV.go rfl ?_
      refine And.intro (fun hc => ?_) (fun hc => ?_)
      · have hc : nI 48 ≤ nI (4 * j) := hc
        rw [nI_leI (by decide) (by omega)] at hc
        omega
      · iterate 6 refine hV.go rfl ?_
        refine topI (V := V) (rw_sh hf6 (by omega)) ?_
        iterate 9 refine hV.go rfl ?_
        refine topJ (V := V) (rw_shL hg (hf j (by omega))) ?_
        iterate 3 refine hV.go rfl ?_
        have hlt : enc (fun i => g (f i)) j < 2 ^ 48 := Nat.lt_of_lt_of_le (enc_lt (fun i hi => hh i (by omega))) (Nat.pow_le_pow_right (by decide) (by omega))
        refine topJ (V := V) ((or_sh hlt (hh j (by omega)) (by omega)).trans (congrArg lN (enc_add (f := fun i => g (f i)) (fun i hi => hh i (by omega))))) ?_
        iterate 3 refine hV.go rfl ?_
        have := ih (j + 1) (by omega) (some (vI (nI (f j))))
        rw [show 4 * (j + 1) = 4 * j + 4 by omega, ← nI_inc4] at this
        exact this
  iterate 4 refine hV.go rfl ?_
  exact loop 12 0 (by omega) _
end
