/-! the law's loop -/
theorem sub4 {n i : Nat} (hn : n ≤ 192) (hi : i ≤ 400) : nI n - nI 4 < nI i ↔ n < i + 4 := by
  by_cases h : 4 ≤ n
  · have e : nI n - nI 4 = nI (n - 4) := by
      have := nI_add (n - 4) 4
      rw [show n - 4 + 4 = n by omega] at this
      rw [← this]
      exact Int32.add_sub_cancel _ _
    rw [e, nI_ltI (by omega) (by omega)]
    omega
  · have hneg : ∀ k, k < 4 → nI k - nI 4 < nI 0 := by decide
    exact ⟨fun _ => by omega, fun _ => Int32.lt_of_lt_of_le (hneg n (by omega)) (nI_le (by omega) (by omega))⟩
theorem and31 (y : Int32) : ∃ k, k < 32 ∧ y &&& 31 = nI k := by
  refine ⟨(y &&& 31).toBitVec.toNat, ?_, ?_⟩
  · rw [Int32.toBitVec_and, BitVec.toNat_and]
    have h : (31 : Int32).toBitVec.toNat = 31 := by decide
    rw [h]
    exact Nat.lt_of_le_of_lt Nat.and_le_right (by decide)
  · apply Int32.toBitVec_inj.1
    show (y &&& 31).toBitVec = BitVec.ofNat 32 _
    rw [BitVec.ofNat_toNat, BitVec.setWidth_eq]
section
variable {l : Launch} {E : En} {b n : Nat} {xs : Nat → Int32} {V : Nat → List (Option AV) → List AV → Wd → Nat → Prop}
theorem law_loop (G : GL l E) (hn : n ≤ 192) (hV : ∀ q ∈ qAll, CLw l E b n xs 200 q V) : ∀ (m i c : Nat) (w : Wd) (A : AS) (x5 x6 x7 : Option AV), n ≤ i + m → i ≤ 196 → c ≤ i → KI w A → QI w A → V 23 [some (vO b), some (vR 0), some (vR 30), some (vR 50), some (vI (nI i)), x5, x6, x7] [] w c := by
  have hH : CLw l E b n xs 200 qH V := hV qH (by simp [qAll])
  have out : ∀ (i c : Nat) (w : Wd) (x5 x6 x7 : Option AV), n < i + 4 → i ≤ 196 → c ≤ i → V 23 [some (vO b), some (vR 0), some (vR 30), some (vR 50), some (vI (nI i)), x5, x6, x7] [] w c := by
    intro i c w x5 x6 x7 h hi hc
    iterate 3 refine hH.go rfl ?_
    refine And.intro rfl ?_
    iterate 3 refine hH.go rfl ?_
    refine And.intro (fun _ => ?_) (fun hc => absurd ((sub4 hn (by omega)).mpr h) hc)
    iterate 2 refine hH.go rfl ?_
    exact ⟨Or.inr rfl, rfl, by omega⟩
  intro m
  induction m with
  | zero =>
    intro i c w A x5 x6 x7 hm hi hc hK hQ
    exact out i c w x5 x6 x7 (by omega) hi hc
  | succ m ih =>
    intro i c w A x5 x6 x7 hm hi hc hK hQ
    by_cases hex : n < i + 4
    · exact out i c w x5 x6 x7 hex hi hc
    have nx : ∀ (u : Wd) (A : AS) (c2 : Nat) (x5 x6 x7 : Option AV), KI u A → QI u A → c2 ≤ c + 2 → V 1186 [some (vO b), some (vR 0), some (vR 30), some (vR 50), some (vI (nI i)), x5, x6, x7] [] u c2 := by
      intro u A c2 x5 x6 x7 hK hQ hc2
      iterate 2 refine hH.go rfl ?_
      have := ih (i + 4) c2 u A x5 x6 x7 (by omega) (by omega) (by omega) hK hQ
      rw [← nI_inc4 i] at this
      exact this
    iterate 3 refine hH.go rfl ?_
    refine And.intro rfl ?_
    iterate 3 refine hH.go rfl ?_
    refine And.intro (fun hc => absurd ((sub4 hn (by omega)).mp hc) hex) (fun _ => ?_)
    iterate 3 refine hH.go rfl ?_
    refine And.intro rfl (Exists.intro i (And.intro rfl (And.intro (by omega) ?_)))
    iterate 2 refine hH.go rfl ?_
    obtain ⟨k, hk, ek⟩ := and31 (xs i)
    refine topI (V := V) ek ?_
    refine hH.go rfl ?_
    match k, hk with
    | 0, _ => exact ⟨148, Or.inr ⟨by decide, by decide, 109, rfl, by decide⟩, law_stickers G (hV q_stickers (by simp [qAll])) hn (by omega) hK hQ (by omega) nx⟩
    | 1, _ => exact ⟨173, Or.inr ⟨by decide, by decide, 134, rfl, by decide⟩, law_type G (hV q_type (by simp [qAll])) hn (by omega) hK hQ (by omega) nx⟩
    | 2, _ => exact ⟨242, Or.inr ⟨by decide, by decide, 203, rfl, by decide⟩, law_cut G (hV q_cut (by simp [qAll])) hn (by omega) hK hQ (by omega) nx⟩
    | 3, _ => exact ⟨267, Or.inr ⟨by decide, by decide, 228, rfl, by decide⟩, law_turn G (hV q_turn (by simp [qAll])) hn (by omega) hK hQ (by omega) nx⟩
    | 4, _ => exact ⟨311, Or.inr ⟨by decide, by decide, 272, rfl, by decide⟩, law_turns G (hV q_turns (by simp [qAll])) hn (by omega) hK hQ (by omega) nx⟩
    | 5, _ => exact ⟨324, Or.inr ⟨by decide, by decide, 285, rfl, by decide⟩, law_image G (hV q_image (by simp [qAll])) hn (by omega) hK hQ (by omega) nx⟩
    | 6, _ => exact ⟨392, Or.inr ⟨by decide, by decide, 353, rfl, by decide⟩, law_move G (hV q_move (by simp [qAll])) hn (by omega) hK hQ (by omega) nx⟩
    | 7, _ => exact ⟨428, Or.inr ⟨by decide, by decide, 389, rfl, by decide⟩, law_swap G (hV q_swap (by simp [qAll])) hn (by omega) hK hQ (by omega) nx⟩
    | 8, _ => exact ⟨476, Or.inr ⟨by decide, by decide, 437, rfl, by decide⟩, law_reset G (hV q_reset (by simp [qAll])) hn (by omega) hK hQ (by omega) nx⟩
    | 9, _ => exact ⟨487, Or.inr ⟨by decide, by decide, 448, rfl, by decide⟩, law_place G (hV q_place (by simp [qAll])) hn (by omega) hK hQ (by omega) nx⟩
    | 10, _ => exact ⟨543, Or.inr ⟨by decide, by decide, 504, rfl, by decide⟩, law_order G (hV q_order (by simp [qAll])) hn (by omega) hK hQ (by omega) nx⟩
    | 11, _ => exact ⟨557, Or.inr ⟨by decide, by decide, 518, rfl, by decide⟩, law_orbit G (hV q_orbit (by simp [qAll])) hn (by omega) hK hQ (by omega) nx⟩
    | 12, _ => exact ⟨613, Or.inr ⟨by decide, by decide, 574, rfl, by decide⟩, law_inOrbit G (hV q_inOrbit (by simp [qAll])) hn (by omega) hK hQ (by omega) nx⟩
    | 13, _ => exact ⟨688, Or.inr ⟨by decide, by decide, 649, rfl, by decide⟩, law_reachable G (hV q_reachable (by simp [qAll])) hn (by omega) hK hQ (by omega) nx⟩
    | 14, _ => exact ⟨701, Or.inr ⟨by decide, by decide, 662, rfl, by decide⟩, law_rank G (hV q_rank (by simp [qAll])) hn (by omega) hK hQ (by omega) nx⟩
    | 15, _ => exact ⟨744, Or.inr ⟨by decide, by decide, 705, rfl, by decide⟩, law_unrank G (hV q_unrank (by simp [qAll])) hn (by omega) hK hQ (by omega) nx⟩
    | 16, _ => exact ⟨812, Or.inr ⟨by decide, by decide, 773, rfl, by decide⟩, law_block G (hV q_block (by simp [qAll])) hn (by omega) hK hQ (by omega) nx⟩
    | 17, _ => exact ⟨880, Or.inr ⟨by decide, by decide, 841, rfl, by decide⟩, law_diameter G (hV q_diameter (by simp [qAll])) hn (by omega) hK hQ (by omega) nx⟩
    | 18, _ => exact ⟨924, Or.inr ⟨by decide, by decide, 885, rfl, by decide⟩, law_atDistance G (hV q_atDistance (by simp [qAll])) hn (by omega) hK hQ (by omega) nx⟩
    | 19, _ => exact ⟨980, Or.inr ⟨by decide, by decide, 941, rfl, by decide⟩, law_solve G (hV q_solve (by simp [qAll])) hn (by omega) hK hQ (by omega) nx⟩
    | 20, _ => exact ⟨1024, Or.inr ⟨by decide, by decide, 985, rfl, by decide⟩, law_solution G (hV q_solution (by simp [qAll])) hn (by omega) hK hQ (by omega) nx⟩
    | 21, _ => exact ⟨1049, Or.inr ⟨by decide, by decide, 1010, rfl, by decide⟩, law_within G (hV q_within (by simp [qAll])) hn (by omega) hK hQ (by omega) nx⟩
    | 22, _ => exact ⟨1105, Or.inr ⟨by decide, by decide, 1066, rfl, by decide⟩, law_write G (hV q_write (by simp [qAll])) hn (by omega) hK hQ (by omega) nx⟩
    | 23, _ => exact ⟨1161, Or.inr ⟨by decide, by decide, 1122, rfl, by decide⟩, law_character G (hV q_character (by simp [qAll])) hn (by omega) hK hQ (by omega) nx⟩
    | 24, _ => exact ⟨1186, Or.inl ⟨Or.inr (by decide), by decide⟩, nx w A c x5 x6 x7 hK hQ (by omega)⟩
    | 25, _ => exact ⟨1186, Or.inl ⟨Or.inr (by decide), by decide⟩, nx w A c x5 x6 x7 hK hQ (by omega)⟩
    | 26, _ => exact ⟨1186, Or.inl ⟨Or.inr (by decide), by decide⟩, nx w A c x5 x6 x7 hK hQ (by omega)⟩
    | 27, _ => exact ⟨1186, Or.inl ⟨Or.inr (by decide), by decide⟩, nx w A c x5 x6 x7 hK hQ (by omega)⟩
    | 28, _ => exact ⟨1186, Or.inl ⟨Or.inr (by decide), by decide⟩, nx w A c x5 x6 x7 hK hQ (by omega)⟩
    | 29, _ => exact ⟨1186, Or.inl ⟨Or.inr (by decide), by decide⟩, nx w A c x5 x6 x7 hK hQ (by omega)⟩
    | 30, _ => exact ⟨1186, Or.inl ⟨Or.inr (by decide), by decide⟩, nx w A c x5 x6 x7 hK hQ (by omega)⟩
    | 31, _ => exact ⟨1186, Or.inl ⟨Or.inr (by decide), by decide⟩, nx w A c x5 x6 x7 hK hQ (by omega)⟩
    | k + 32, hk => exact absurd hk (by omega)
theorem law_all {w : Wd} {A : AS} (G : GL l E) (hn : n ≤ 192) (hV : ∀ q ∈ qAll, CLw l E b n xs 200 q V) (hK : KI w A) (hQ : QI w A) : V 20 [some (vO b), some (vR 0), some (vR 30), some (vR 50), none, none, none, none] [] w 0 := by
  have hH : CLw l E b n xs 200 qH V := hV qH (by simp [qAll])
  iterate 2 refine hH.go rfl ?_
  exact law_loop G hn hV n 0 0 w A none none none (by omega) (by decide) (Nat.le_refl _) hK hQ
end
