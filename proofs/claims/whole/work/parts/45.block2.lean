/-! block, in the class -/
theorem b2i_or (a b : Bool) : b2i a ||| b2i b = b2i (a || b) := by
  cases a <;> cases b <;> decide
theorem ntz_eq0 : ∀ a b : Fin 64, 64 * a.val + b.val ≠ 0 → ((nI (64 * a.val + b.val) ^^^ (-1)) &&& (nI (64 * a.val + b.val) - 1)) = nI (2 ^ tzn (64 * a.val + b.val) - 1) := by decide +kernel
theorem ntz_eq {k : Nat} (hk : k < 4096) (h0 : k ≠ 0) : ((nI k ^^^ (-1)) &&& (nI k - 1)) = nI (2 ^ tzn k - 1) := by
  have := ntz_eq0 ⟨k / 64, by omega⟩ ⟨k % 64, by omega⟩
  simp only at this
  rw [show 64 * (k / 64) + k % 64 = k by omega] at this
  exact this h0
def cmpB : ClassFile.Cond → Int32 → Int32 → Bool
  | .eq, x, y => decide (x = y)
  | .ne, x, y => decide (¬ x = y)
  | .lt, x, y => decide (x < y)
  | .ge, x, y => decide (y ≤ x)
  | .gt, x, y => decide (y < x)
  | .le, x, y => decide (x ≤ y)
theorem cmpB_iff {c : ClassFile.Cond} {x y : Int32} : cmpB c x y = true ↔ cmpI c x y := by
  cases c <;> exact decide_eq_true_iff
def ClW (w : Wd) (g : Nat → Nat) : Prop := ∀ p, p < 12 → w.1 6 0 p = nI (g p) ∧ g p < 12
section
variable {l : Launch} {E : En}
theorem c_ntz {w : Wd} {k : Nat} (G : GC l E) (hk : k < 4096) (h0 : k ≠ 0) (hz : tzn k < 12) : Ctr l E 1 0 mJ6_numberOfTrailingZeros_0f7a4 [vI (nI k)] w (fun r u => r = some (vI (nI (tzn k))) ∧ u = w) noX := by
  refine Ctr.of (tw := []) G.1 G.2 oJ6_ok pgJ6_numberOfTrailingZeros_0f7a4 rfl (by decide) rfl rfl (Nat.le_of_ble_eq_true rfl) ?_
  intro V hV
  have e := ntz_eq hk h0
  obtain ⟨z, hzz⟩ : ∃ z, tzn k = z := ⟨_, rfl⟩
  rw [hzz] at e hz
  iterate 7 refine hV.go rfl ?_
  refine topI (V := V) e ?_
  iterate 3 refine hV.go rfl ?_
  match z, hz, hzz with
  | 0, _, hzz =>
    refine And.intro (fun hc => absurd (cmpB_iff.mpr hc) (by decide)) (fun _ => ?_)
    repeat refine hV.go rfl ?_
    rw [hzz]
    exact ⟨⟨rfl, rfl⟩, Nat.le_refl _⟩
  | 1, _, hzz =>
    refine And.intro (fun _ => ?_) (fun hc => absurd (cmpB_iff.mp (by decide)) hc)
    iterate 5 refine hV.go rfl ?_
    refine And.intro (fun _ => ?_) (fun hc => absurd (cmpB_iff.mp (by decide)) hc)
    iterate 3 refine hV.go rfl ?_
    refine And.intro (fun _ => ?_) (fun hc => absurd (cmpB_iff.mp (by decide)) hc)
    iterate 3 refine hV.go rfl ?_
    refine And.intro (fun _ => ?_) (fun hc => absurd (cmpB_iff.mp (by decide)) hc)
    iterate 3 refine hV.go rfl ?_
    refine And.intro (fun _ => ?_) (fun hc => absurd (cmpB_iff.mp (by decide)) hc)
    repeat refine hV.go rfl ?_
    rw [hzz]
    exact ⟨⟨rfl, rfl⟩, Nat.le_refl _⟩
  | 2, _, hzz =>
    refine And.intro (fun _ => ?_) (fun hc => absurd (cmpB_iff.mp (by decide)) hc)
    iterate 5 refine hV.go rfl ?_
    refine And.intro (fun _ => ?_) (fun hc => absurd (cmpB_iff.mp (by decide)) hc)
    iterate 3 refine hV.go rfl ?_
    refine And.intro (fun _ => ?_) (fun hc => absurd (cmpB_iff.mp (by decide)) hc)
    iterate 3 refine hV.go rfl ?_
    refine And.intro (fun _ => ?_) (fun hc => absurd (cmpB_iff.mp (by decide)) hc)
    iterate 3 refine hV.go rfl ?_
    refine And.intro (fun _ => ?_) (fun hc => absurd (cmpB_iff.mp (by decide)) hc)
    repeat refine hV.go rfl ?_
    rw [hzz]
    exact ⟨⟨rfl, rfl⟩, Nat.le_refl _⟩
  | 3, _, hzz =>
    refine And.intro (fun _ => ?_) (fun hc => absurd (cmpB_iff.mp (by decide)) hc)
    iterate 5 refine hV.go rfl ?_
    refine And.intro (fun _ => ?_) (fun hc => absurd (cmpB_iff.mp (by decide)) hc)
    iterate 3 refine hV.go rfl ?_
    refine And.intro (fun _ => ?_) (fun hc => absurd (cmpB_iff.mp (by decide)) hc)
    iterate 3 refine hV.go rfl ?_
    refine And.intro (fun _ => ?_) (fun hc => absurd (cmpB_iff.mp (by decide)) hc)
    iterate 3 refine hV.go rfl ?_
    refine And.intro (fun hc => absurd (cmpB_iff.mpr hc) (by decide)) (fun _ => ?_)
    iterate 5 refine hV.go rfl ?_
    repeat refine hV.go rfl ?_
    rw [hzz]
    exact ⟨⟨rfl, rfl⟩, Nat.le_refl _⟩
  | 4, _, hzz =>
    refine And.intro (fun _ => ?_) (fun hc => absurd (cmpB_iff.mp (by decide)) hc)
    iterate 5 refine hV.go rfl ?_
    refine And.intro (fun _ => ?_) (fun hc => absurd (cmpB_iff.mp (by decide)) hc)
    iterate 3 refine hV.go rfl ?_
    refine And.intro (fun _ => ?_) (fun hc => absurd (cmpB_iff.mp (by decide)) hc)
    iterate 3 refine hV.go rfl ?_
    refine And.intro (fun _ => ?_) (fun hc => absurd (cmpB_iff.mp (by decide)) hc)
    iterate 3 refine hV.go rfl ?_
    refine And.intro (fun hc => absurd (cmpB_iff.mpr hc) (by decide)) (fun _ => ?_)
    iterate 5 refine hV.go rfl ?_
    repeat refine hV.go rfl ?_
    rw [hzz]
    exact ⟨⟨rfl, rfl⟩, Nat.le_refl _⟩
  | 5, _, hzz =>
    refine And.intro (fun _ => ?_) (fun hc => absurd (cmpB_iff.mp (by decide)) hc)
    iterate 5 refine hV.go rfl ?_
    refine And.intro (fun _ => ?_) (fun hc => absurd (cmpB_iff.mp (by decide)) hc)
    iterate 3 refine hV.go rfl ?_
    refine And.intro (fun _ => ?_) (fun hc => absurd (cmpB_iff.mp (by decide)) hc)
    iterate 3 refine hV.go rfl ?_
    refine And.intro (fun hc => absurd (cmpB_iff.mpr hc) (by decide)) (fun _ => ?_)
    iterate 5 refine hV.go rfl ?_
    iterate 3 refine hV.go rfl ?_
    refine And.intro (fun _ => ?_) (fun hc => absurd (cmpB_iff.mp (by decide)) hc)
    repeat refine hV.go rfl ?_
    rw [hzz]
    exact ⟨⟨rfl, rfl⟩, Nat.le_refl _⟩
  | 6, _, hzz =>
    refine And.intro (fun _ => ?_) (fun hc => absurd (cmpB_iff.mp (by decide)) hc)
    iterate 5 refine hV.go rfl ?_
    refine And.intro (fun _ => ?_) (fun hc => absurd (cmpB_iff.mp (by decide)) hc)
    iterate 3 refine hV.go rfl ?_
    refine And.intro (fun _ => ?_) (fun hc => absurd (cmpB_iff.mp (by decide)) hc)
    iterate 3 refine hV.go rfl ?_
    refine And.intro (fun hc => absurd (cmpB_iff.mpr hc) (by decide)) (fun _ => ?_)
    iterate 5 refine hV.go rfl ?_
    iterate 3 refine hV.go rfl ?_
    refine And.intro (fun _ => ?_) (fun hc => absurd (cmpB_iff.mp (by decide)) hc)
    repeat refine hV.go rfl ?_
    rw [hzz]
    exact ⟨⟨rfl, rfl⟩, Nat.le_refl _⟩
  | 7, _, hzz =>
    refine And.intro (fun _ => ?_) (fun hc => absurd (cmpB_iff.mp (by decide)) hc)
    iterate 5 refine hV.go rfl ?_
    refine And.intro (fun _ => ?_) (fun hc => absurd (cmpB_iff.mp (by decide)) hc)
    iterate 3 refine hV.go rfl ?_
    refine And.intro (fun _ => ?_) (fun hc => absurd (cmpB_iff.mp (by decide)) hc)
    iterate 3 refine hV.go rfl ?_
    refine And.intro (fun hc => absurd (cmpB_iff.mpr hc) (by decide)) (fun _ => ?_)
    iterate 5 refine hV.go rfl ?_
    iterate 3 refine hV.go rfl ?_
    refine And.intro (fun hc => absurd (cmpB_iff.mpr hc) (by decide)) (fun _ => ?_)
    iterate 5 refine hV.go rfl ?_
    repeat refine hV.go rfl ?_
    rw [hzz]
    exact ⟨⟨rfl, rfl⟩, Nat.le_refl _⟩
  | 8, _, hzz =>
    refine And.intro (fun _ => ?_) (fun hc => absurd (cmpB_iff.mp (by decide)) hc)
    iterate 5 refine hV.go rfl ?_
    refine And.intro (fun _ => ?_) (fun hc => absurd (cmpB_iff.mp (by decide)) hc)
    iterate 3 refine hV.go rfl ?_
    refine And.intro (fun _ => ?_) (fun hc => absurd (cmpB_iff.mp (by decide)) hc)
    iterate 3 refine hV.go rfl ?_
    refine And.intro (fun hc => absurd (cmpB_iff.mpr hc) (by decide)) (fun _ => ?_)
    iterate 5 refine hV.go rfl ?_
    iterate 3 refine hV.go rfl ?_
    refine And.intro (fun hc => absurd (cmpB_iff.mpr hc) (by decide)) (fun _ => ?_)
    iterate 5 refine hV.go rfl ?_
    repeat refine hV.go rfl ?_
    rw [hzz]
    exact ⟨⟨rfl, rfl⟩, Nat.le_refl _⟩
  | 9, _, hzz =>
    refine And.intro (fun _ => ?_) (fun hc => absurd (cmpB_iff.mp (by decide)) hc)
    iterate 5 refine hV.go rfl ?_
    refine And.intro (fun _ => ?_) (fun hc => absurd (cmpB_iff.mp (by decide)) hc)
    iterate 3 refine hV.go rfl ?_
    refine And.intro (fun hc => absurd (cmpB_iff.mpr hc) (by decide)) (fun _ => ?_)
    iterate 5 refine hV.go rfl ?_
    iterate 3 refine hV.go rfl ?_
    refine And.intro (fun _ => ?_) (fun hc => absurd (cmpB_iff.mp (by decide)) hc)
    iterate 3 refine hV.go rfl ?_
    refine And.intro (fun _ => ?_) (fun hc => absurd (cmpB_iff.mp (by decide)) hc)
    repeat refine hV.go rfl ?_
    rw [hzz]
    exact ⟨⟨rfl, rfl⟩, Nat.le_refl _⟩
  | 10, _, hzz =>
    refine And.intro (fun _ => ?_) (fun hc => absurd (cmpB_iff.mp (by decide)) hc)
    iterate 5 refine hV.go rfl ?_
    refine And.intro (fun _ => ?_) (fun hc => absurd (cmpB_iff.mp (by decide)) hc)
    iterate 3 refine hV.go rfl ?_
    refine And.intro (fun hc => absurd (cmpB_iff.mpr hc) (by decide)) (fun _ => ?_)
    iterate 5 refine hV.go rfl ?_
    iterate 3 refine hV.go rfl ?_
    refine And.intro (fun _ => ?_) (fun hc => absurd (cmpB_iff.mp (by decide)) hc)
    iterate 3 refine hV.go rfl ?_
    refine And.intro (fun _ => ?_) (fun hc => absurd (cmpB_iff.mp (by decide)) hc)
    repeat refine hV.go rfl ?_
    rw [hzz]
    exact ⟨⟨rfl, rfl⟩, Nat.le_refl _⟩
  | 11, _, hzz =>
    refine And.intro (fun _ => ?_) (fun hc => absurd (cmpB_iff.mp (by decide)) hc)
    iterate 5 refine hV.go rfl ?_
    refine And.intro (fun _ => ?_) (fun hc => absurd (cmpB_iff.mp (by decide)) hc)
    iterate 3 refine hV.go rfl ?_
    refine And.intro (fun hc => absurd (cmpB_iff.mpr hc) (by decide)) (fun _ => ?_)
    iterate 5 refine hV.go rfl ?_
    iterate 3 refine hV.go rfl ?_
    refine And.intro (fun _ => ?_) (fun hc => absurd (cmpB_iff.mp (by decide)) hc)
    iterate 3 refine hV.go rfl ?_
    refine And.intro (fun hc => absurd (cmpB_iff.mpr hc) (by decide)) (fun _ => ?_)
    iterate 5 refine hV.go rfl ?_
    repeat refine hV.go rfl ?_
    rw [hzz]
    exact ⟨⟨rfl, rfl⟩, Nat.le_refl _⟩
theorem c_imagesOf {w : Wd} {n k : Nat} {t : Nat → Nat} (G : GC l E) (h6 : w.1 0 0 6 = nI n) (hn : n ≤ 12) (hk : k < 2 ^ 12) (ht : Pm t) : Ctr l E 2 0 mX4_imagesOf [vR 0, vI (nI k), vJ (rw t)] w (fun r u => u = w ∧ ∃ k', r = some (vI (nI k')) ∧ k' < 2 ^ 12 ∧ ∀ q, k'.testBit q = true ↔ ∃ p, p < n ∧ k.testBit p = true ∧ t p = q) noX := by
  refine Ctr.of (tw := []) G.1 G.2 oX4_ok pgX4_imagesOf rfl (by decide) rfl rfl (Nat.le_of_ble_eq_true rfl) ?_
  intro V hV
  have loop : ∀ c i : Nat, i + c = n → ∀ acc, acc < 2 ^ 12 → (∀ q, acc.testBit q = true ↔ ∃ p, p < i ∧ k.testBit p = true ∧ t p = q) → V 6 [some (vR 0), some (vI (nI k)), some (vJ (rw t)), none, some (vI (nI acc)), some (vI (nI i))] [] w 0 := by
    intro c
    induction c with
    | zero =>
      intro i hi acc ha hI
      iterate 3 refine hV.go rfl ?_
      refine topI (V := V) h6 ?_
      refine hV.go rfl ?_
      refine And.intro (fun hc => ?_) (fun hc => ?_)
      · repeat refine hV.go rfl ?_
        have e : i = n := by omega
        rw [e] at hI
        exact ⟨⟨rfl, acc, rfl, ha, hI⟩, Nat.le_refl _⟩
      · exact absurd (show nI n ≤ nI i from nI_le (by omega) (by omega)) hc
    | succ c ih =>
      intro i hi acc ha hI
      iterate 3 refine hV.go rfl ?_
      refine topI (V := V) h6 ?_
      refine hV.go rfl ?_
      refine And.intro (fun hc => ?_) (fun _ => ?_)
      · have hc : nI n ≤ nI i := hc
        rw [nI_leI (by omega) (by omega)] at hc
        omega
      have again : ∀ acc', acc' < 2 ^ 12 → (∀ q, acc'.testBit q = true ↔ ∃ p, p < i + 1 ∧ k.testBit p = true ∧ t p = q) → V 37 [some (vR 0), some (vI (nI k)), some (vJ (rw t)), none, some (vI (nI acc')), some (vI (nI i))] [] w 0 := by
        intro acc' ha' hI'
        iterate 2 refine hV.go rfl ?_
        have := ih (i + 1) (by omega) acc' ha' hI'
        rw [← nI_inc i] at this
        exact this
      iterate 6 refine hV.go rfl ?_
      refine And.intro (fun hc => ?_) (fun hc => ?_)
      · have hb := (nx_bit (k := k) (j := i) (by omega) (by omega)).mp hc
        refine again acc ha (fun q => (hI q).trans ⟨?_, ?_⟩)
        · rintro ⟨p, a, b, c⟩
          exact ⟨p, by omega, b, c⟩
        · rintro ⟨p, a, b, c⟩
          refine ⟨p, ?_, b, c⟩
          by_cases e : p = i
          · rw [e, hb] at b
            cases b
          · omega
      · have hb : k.testBit i = true := by
          cases hz : k.testBit i with
          | true => rfl
          | false => exact absurd ((nx_bit (k := k) (j := i) (by omega) (by omega)).mpr hz) hc
        have hti := ht.1 i (by omega)
        iterate 5 refine hV.go rfl ?_
        refine And.intro (callP_v (c_at G ht.lt16 (by omega) _) (by decide) (by decide) ?_) trivial
        refine hV.go rfl ?_
        refine topI (V := V) (shl1 (t i) hti) ?_
        refine hV.go rfl ?_
        refine topI (V := V) (fa_or _ _) ?_
        refine hV.go rfl ?_
        refine again _ (Nat.or_lt_two_pow ha (Nat.pow_lt_pow_right (by decide) hti)) (fun q => ?_)
        rw [tb_or, hI q]
        constructor
        · rintro (⟨p, a, b, c⟩ | rfl)
          · exact ⟨p, by omega, b, c⟩
          · exact ⟨i, by omega, hb, rfl⟩
        · rintro ⟨p, a, b, c⟩
          by_cases e : p = i
          · rw [e] at c
            exact Or.inr c.symm
          · exact Or.inl ⟨p, by omega, b, c⟩
  iterate 4 refine hV.go rfl ?_
  exact loop n 0 (by omega) 0 (by decide) (fun q => ⟨fun z => by simp at z, fun ⟨p, a, _⟩ => by omega⟩)
theorem c_placesFrom {w : Wd} {n j : Nat} {ts : List (Nat → Nat)} (G : GC l E) (h6 : w.1 0 0 6 = nI n) (hn : n ≤ 12) (h7 : w.1 0 0 7 = nI ts.length) (hmv : MvW w (mvs ts)) (ht : ∀ t ∈ ts, Lw n t) (hj : j < n) : Ctr l E 3 0 mX4_placesFrom [vR 0, vI (nI j)] w (fun r u => u = w ∧ ∃ k, r = some (vI (nI k)) ∧ k < 2 ^ 12 ∧ ∀ p, k.testBit p = true ↔ OJ ts j p) noX := by
  refine Ctr.of (tw := []) G.1 G.2 oX4_ok pgX4_placesFrom rfl (by decide) rfl rfl (Nat.le_of_ble_eq_true rfl) ?_
  intro V hV
  have hl10 := hmv.1
  rw [mvs_len] at hl10
  have hOJ : ∀ p, OJ ts j p → p < n := by
    rintro p ⟨f, a, rfl⟩
    exact (a.lw ht).lt hj
  have outer : ∀ c r : Nat, r + c = n → ∀ (k : Nat) (x4 x5 : Option AV), k < 2 ^ 12 → k.testBit j = true → (∀ p, k.testBit p = true → OJ ts j p) → r + 1 ≤ bc k → V 6 [some (vR 0), some (vI (nI j)), some (vI (nI k)), some (vI (nI r)), x4, x5] [] w 0 := by
    intro c
    induction c with
    | zero =>
      intro r hr k x4 x5 hk hkj hko hb
      have := bc_le (k := k) (n := n) (fun p hp => hOJ p (hko p hp))
      omega
    | succ c ih =>
      intro r hr k x4 x5 hk hkj hko hb
      iterate 3 refine hV.go rfl ?_
      refine topI (V := V) h6 ?_
      refine hV.go rfl ?_
      refine And.intro (fun hc => ?_) (fun _ => ?_)
      · have hc : nI n ≤ nI r := hc
        rw [nI_leI (by omega) (by omega)] at hc
        omega
      have inner : ∀ c2 i : Nat, i + c2 = ts.length → ∀ k', k' < 2 ^ 12 → (∀ p, k.testBit p = true → k'.testBit p = true) → (∀ p, k'.testBit p = true → OJ ts j p) → (∀ i' t, i' < i → ts[i']? = some t → ∀ p, k.testBit p = true → k'.testBit (t p) = true) → V 20 [some (vR 0), some (vI (nI j)), some (vI (nI k')), some (vI (nI r)), some (vI (nI k)), some (vI (nI i))] [] w 0 := by
        intro c2
        induction c2 with
        | zero =>
          intro i hi k' hk' hsub ho hcl
          iterate 3 refine hV.go rfl ?_
          refine topI (V := V) h7 ?_
          refine hV.go rfl ?_
          refine And.intro (fun _ => ?_) (fun hc => absurd (show nI ts.length ≤ nI i from nI_le (by omega) (by omega)) hc)
          iterate 3 refine hV.go rfl ?_
          refine And.intro (fun hc => ?_) (fun hc => ?_)
          · have hc : ¬ nI k' = nI k := hc
            rw [nI_eq (by omega) (by omega)] at hc
            iterate 2 refine hV.go rfl ?_
            have := ih (r + 1) (by omega) k' (some (vI (nI k))) (some (vI (nI i))) hk' (hsub j hkj) ho (by
              have := bc_lt hsub (fun p hp => tb_lt hk' hp) hc
              omega)
            rw [← nI_inc r] at this
            exact this
          · have hc : nI k' = nI k := Classical.not_not.mp hc
            rw [nI_eq (by omega) (by omega)] at hc
            repeat refine hV.go rfl ?_
            refine ⟨⟨rfl, k', rfl, hk', fun p => ⟨ho p, fun hp => ?_⟩⟩, Nat.le_refl _⟩
            refine hp.of (fun t hT p hp => ?_) (hsub j hkj)
            obtain ⟨i', hi'⟩ := List.getElem?_of_mem hT
            rw [hc] at hp
            exact hcl i' t (by have := (List.getElem?_eq_some_iff.mp hi').1; omega) hi' p hp
        | succ c2 ih2 =>
          intro i hi k' hk' hsub ho hcl
          have hT : ts[i]? = some ts[i] := List.getElem?_eq_getElem (by omega)
          have hL := ht _ (List.mem_of_getElem? hT)
          iterate 3 refine hV.go rfl ?_
          refine topI (V := V) h7 ?_
          refine hV.go rfl ?_
          refine And.intro (fun hc => ?_) (fun _ => ?_)
          · have hc : nI ts.length ≤ nI i := hc
            rw [nI_leI (by omega) (by omega)] at hc
            omega
          iterate 8 refine hV.go rfl ?_
          refine topI (V := V) (show (2 : Int32) * nI i = nI (2 * i) from (Int32.ofNat_mul 2 i).symm) ?_
          refine hV.go rfl ?_
          refine Exists.intro (2 * i) (And.intro rfl (And.intro (show 2 * i < 10 by omega) ?_))
          refine topJ (V := V) (hmv.2.2 _ _ (mvs_ev _ i _ hT).1) ?_
          refine hV.go rfl ?_
          refine And.intro (callP_r (c_imagesOf G h6 hn hk' hL.1) (by decide) (by decide) (fun v z hq => ?_)) trivial
          obtain ⟨rfl, k2, rfl, hk2, hi2⟩ := hq
          refine hV.go rfl ?_
          refine topI (V := V) (fa_or _ _) ?_
          iterate 3 refine hV.go rfl ?_
          have hor : ∀ q, (k' ||| k2).testBit q = true ↔ k'.testBit q = true ∨ k2.testBit q = true := fun q => by rw [Nat.testBit_or, Bool.or_eq_true]
          have := ih2 (i + 1) (by omega) (k' ||| k2) (Nat.or_lt_two_pow hk' hk2) (fun p hp => (hor p).mpr (Or.inl (hsub p hp))) (fun p hp => by
            rcases (hor p).mp hp with hp | hp
            · exact ho p hp
            · obtain ⟨p', a, b, rfl⟩ := (hi2 p).mp hp
              exact (ho p' b).step (List.mem_of_getElem? hT)) (fun i' t hi' hti p hp => by
            by_cases e : i' = i
            · subst e
              rw [hT] at hti
              cases hti
              exact (hor _).mpr (Or.inr ((hi2 _).mpr ⟨p, hOJ p (ho p (hsub p hp)), hsub p hp, rfl⟩))
            · exact (hor _).mpr (Or.inl (hcl i' t (by omega) hti p hp)))
          rw [← nI_inc i] at this
          exact this
      iterate 4 refine hV.go rfl ?_
      exact inner ts.length 0 (by omega) k hk (fun p hp => hp) hko (fun i' t hi' => by omega)
  iterate 3 refine hV.go rfl ?_
  refine topI (V := V) (shl1 j (by omega)) ?_
  iterate 3 refine hV.go rfl ?_
  have htb : ∀ p, (2 ^ j).testBit p = true ↔ p = j := fun p => by
    rw [Nat.testBit_two_pow, decide_eq_true_iff]
    exact eq_comm
  refine outer n 0 (by omega) (2 ^ j) _ _ (Nat.pow_lt_pow_right (by decide) (by omega)) ((htb j).mpr rfl) (fun p hp => ?_) ?_
  · rw [(htb p).mp hp]
    exact OJ.rf _ _
  · exact List.countP_pos_iff.mpr ⟨j, List.mem_range.mpr (by omega), (htb j).mpr rfl⟩
end
