/-! the reference: type, skip, isDigit -/
section
variable {l : Launch} {E : En}
theorem m_type {w : Wd} {A : AS} {x : Int64} {n : Int32} {po : Option AV → Wd → Prop} (G : GM l E) (hw : QI w A) (h1 : ∀ k, n = nI k → tyOk A.2.2.2.1 x k → ∀ u, QI u (A.1, A.2.1, A.2.2.1, A.2.2.2.1 ++ (List.range k).map (byt x), A.2.2.2.2) → Sm mdK w u → po (some (vI 1)) u) (h2 : (∀ k, n = nI k → ¬ tyOk A.2.2.2.1 x k) → ∀ u, QI u A → Sm mdK w u → po (some (vI 0)) u) : Ctr l E 1 0 mX5_type [vR 30, vJ x, vI n] w po noX := by
  refine Ctr.of (tw := []) G.1 G.2 oX5_ok pgX5_type rfl (by decide) rfl rfl (Nat.le_of_ble_eq_true rfl) ?_
  intro V hV
  iterate 3 refine hV.go rfl ?_
  have key : ∀ w0 : Wd, w0 = wI w 30 0 0 0 → V 5 [some (vR 30), some (vJ x), none, some (vI n), none, none, none] [] w0 0 := by
    intro w0 hw0
    have q0 : QI w0 A := by rw [hw0]; exact hw.th 0
    have s0 : Sm mdK w w0 := by
      rw [hw0]
      exact Sm.wI (k := 30) Sm.rf (by decide)
    obtain ⟨x1, x2, x3⟩ := id q0.2.1
    have no2 : (∀ k, n = nI k → ¬ tyOk A.2.2.2.1 x k) → ∀ (y5 : Int32) (x6 : Option AV), V 88 [some (vR 30), some (vJ x), none, some (vI n), some (vI 0), some (vI y5), x6] [] w0 0 := by
      intro hno y5 x6
      have out : V 139 [some (vR 30), some (vJ x), none, some (vI n), some (vI 0), some (vI 0), x6] [] w0 0 := by
        repeat refine hV.go rfl ?_
        exact ⟨Or.inl rfl, h2 hno w0 q0 s0, Nat.le_refl _⟩
      iterate 5 refine hV.go rfl ?_
      refine And.intro (fun _ => out) (fun _ => ?_)
      iterate 2 refine hV.go rfl ?_
      refine And.intro (fun _ => out) (fun hc => absurd rfl hc)
    have bad : (∀ k, n = nI k → ¬ tyOk A.2.2.2.1 x k) → V 30 [some (vR 30), some (vJ x), none, some (vI n), none, none, none] [] w0 0 := by
      intro hno
      iterate 7 refine hV.go rfl ?_
      refine And.intro (fun _ => no2 hno _ _) (fun _ => ?_)
      iterate 2 refine hV.go rfl ?_
      refine And.intro (fun _ => no2 hno _ _) (fun hc => absurd rfl hc)
    iterate 2 refine hV.go rfl ?_
    refine And.intro (fun hc => ?_) (fun hc => ?_)
    · have hc : n ≤ 0 := hc
      refine bad (fun k e h => ?_)
      rw [e] at hc
      have hc : nI k ≤ nI 0 := hc
      rw [nI_leI (by have := h.2.1; omega) (by decide)] at hc
      have := h.1
      omega
    have hpos : ¬ n ≤ 0 := hc
    iterate 3 refine hV.go rfl ?_
    refine And.intro (fun hc => ?_) (fun hc => ?_)
    · have hc : nI 9 ≤ n := hc
      refine bad (fun k e h => ?_)
      rw [e] at hc
      rw [nI_leI (by decide) (by have := h.2.1; omega)] at hc
      have := h.2.1
      omega
    have hlt : ¬ nI 9 ≤ n := hc
    have hnn : ¬ n < 0 := fun z => hpos (Int32.le_of_lt z)
    obtain ⟨k, hk, rfl⟩ : ∃ k, k ≤ 9 ∧ n = nI k := nI_of2 (M := nI 9) (nI_toInt (by decide)) hnn (Int32.le_of_lt (Int32.not_le.mp hlt))
    have hk9 : k < 9 := by
      rw [nI_leI (by decide) (by omega)] at hlt
      omega
    have hk1 : 1 ≤ k := by
      have hpos : ¬ nI k ≤ nI 0 := hpos
      rw [nI_leI (by omega) (by decide)] at hpos
      omega
    iterate 2 refine hV.go rfl ?_
    refine topI (V := V) x1 ?_
    iterate 2 refine hV.go rfl ?_
    refine topI (V := V) (nI_add _ _) ?_
    iterate 2 refine hV.go rfl ?_
    refine And.intro (fun hc => ?_) (fun hc => ?_)
    · have hc : nI 48 < nI (A.2.2.2.1.length + k) := hc
      rw [nI_ltI (by decide) (by omega)] at hc
      refine bad (fun k' e h => ?_)
      have ek : k = k' := (nI_eq (by omega) (by have := h.2.1; omega)).mp e
      have := h.2.2.1
      omega
    have hc : ¬ nI 48 < nI (A.2.2.2.1.length + k) := hc
    rw [nI_ltI (by decide) (by omega)] at hc
    have hko : (∀ k', nI k = nI k' → ¬ tyOk A.2.2.2.1 x k') ↔ ¬ ∀ i, i < k → okc (byt x i) := by
      constructor
      · exact fun h z => h k rfl ⟨hk1, by omega, by omega, z⟩
      · intro h k' e z
        have ek : k = k' := (nI_eq (by omega) (by have := z.2.1; omega)).mp e
        subst ek
        exact h z.2.2.2
    have app : (∀ i, i < k → okc (byt x i)) → ∀ c i : Nat, i + c = k → ∀ u (x6 : Option AV), TXF w0 u (A.2.2.2.1 ++ (List.range i).map (byt x)) → V 91 [some (vR 30), some (vJ x), none, some (vI (nI k)), some (vI 1), some (vI (nI i)), x6] [] u 0 := by
      intro hall c
      induction c with
      | zero =>
        intro i hi u x6 hu
        have hik : i = k := by omega
        subst hik
        iterate 3 refine hV.go rfl ?_
        refine And.intro (fun _ => ?_) (fun hc => absurd (show nI i ≤ nI i from nI_le (Nat.le_refl _) (by omega)) hc)
        repeat refine hV.go rfl ?_
        refine ⟨Or.inr rfl, h1 i rfl ⟨hk1, by omega, by omega, hall⟩ u ⟨q0.1.cg (hu.2.2 1 (by decide)) (hu.2.2 2 (by decide)) (hu.2.1 31 (by decide)).1 (hu.2.1 32 (by decide)).1, ⟨hu.1.1, ?_, hu.1.2⟩, q0.2.2.1.cg (hu.2.2 16 (by decide)) (hu.2.1 41 (by decide)).1, q0.2.2.2.cg (hu.2.2 7 (by decide)) (hu.2.2 13 (by decide)) (hu.2.1 34 (by decide)).1 (hu.2.1 35 (by decide)).1 (hu.2.1 39 (by decide)).1⟩ (s0.tr (hu.2.1.mono (by decide))), Nat.le_refl _⟩
        rw [List.length_append, List.length_map, List.length_range]
        omega
      | succ c ih =>
        intro i hi u x6 hu
        have hok := hall i (by omega)
        have hlen : (A.2.2.2.1 ++ (List.range i).map (byt x)).length = A.2.2.2.1.length + i := by rw [List.length_append, List.length_map, List.length_range]
        iterate 3 refine hV.go rfl ?_
        refine And.intro (fun hc => ?_) (fun _ => ?_)
        · have hc : nI k ≤ nI i := hc
          rw [nI_leI (by omega) (by omega)] at hc
          omega
        iterate 2 refine hV.go rfl ?_
        refine And.intro (fun hc => absurd (show (1 : Int32) = 0 from hc) (by decide)) (fun _ => ?_)
        iterate 4 refine hV.go rfl ?_
        refine topI (V := V) hu.1.1 ?_
        iterate 8 refine hV.go rfl ?_
        refine topI (V := V) (byt_sar x (show i < 8 by omega)) ?_
        refine hV.go rfl ?_
        refine Exists.intro (A.2.2.2.1 ++ (List.range i).map (byt x)).length (And.intro rfl (And.intro (show (A.2.2.2.1 ++ (List.range i).map (byt x)).length < 60 by omega) ?_))
        iterate 3 refine hV.go rfl ?_
        refine topI (V := V) (show (wI u 33 0 (A.2.2.2.1 ++ (List.range i).map (byt x)).length (nI (byt x i))).1 30 0 5 = nI (A.2.2.2.1 ++ (List.range i).map (byt x)).length by rw [wI_ne (by omega)]; exact hu.1.1) ?_
        iterate 2 refine hV.go rfl ?_
        refine topI (V := V) (nI_1 _) ?_
        iterate 3 refine hV.go rfl ?_
        have := ih (i + 1) (by omega) (wI (wI u 33 0 (A.2.2.2.1 ++ (List.range i).map (byt x)).length (nI (byt x i))) 30 0 5 (nI ((A.2.2.2.1 ++ (List.range i).map (byt x)).length + 1))) x6 (by
          rw [List.range_succ, List.map_append, ← List.append_assoc, List.map_singleton]
          refine ⟨⟨?_, fun a d hd => ?_⟩, Sm.wI (k := 30) (Sm.wI (k := 33) hu.2.1 (by decide)) (by decide), fun j hj => ?_⟩
          · rw [wI_eq]
            congr 1
            simp
            omega
          · rw [wI_ne (by omega)]
            by_cases e : a < (A.2.2.2.1 ++ (List.range i).map (byt x)).length
            · rw [List.getElem?_append_left e] at hd
              rw [wI_ne (by omega)]
              exact hu.1.2 a d hd
            · rw [List.getElem?_append_right (by omega)] at hd
              have hb2 : a - (A.2.2.2.1 ++ (List.range i).map (byt x)).length < 1 := (List.getElem?_eq_some_iff.mp hd).1
              rw [show a - (A.2.2.2.1 ++ (List.range i).map (byt x)).length = 0 by omega] at hd
              cases hd
              rw [show a = (A.2.2.2.1 ++ (List.range i).map (byt x)).length by omega, wI_eq]
              exact ⟨rfl, by have := hok.2; omega⟩
          · rw [wI_ne (by omega), wI_ne (by omega)]
            exact hu.2.2 j hj)
        rw [← nI_inc i] at this
        exact this
    have chk : ∀ c i : Nat, i + c = k → ∀ (b : Bool) (x6 : Option AV), (b = true → ∀ p, p < i → okc (byt x p)) → (b = false → ¬ ∀ p, p < k → okc (byt x p)) → V 36 [some (vR 30), some (vJ x), none, some (vI (nI k)), some (vI (b2i b)), some (vI (nI i)), x6] [] w0 0 := by
      intro c
      induction c with
      | zero =>
        intro i hi b x6 hb1 hb2
        iterate 3 refine hV.go rfl ?_
        refine And.intro (fun _ => ?_) (fun hc => absurd (show nI k ≤ nI i from nI_le (by omega) (by omega)) hc)
        cases b with
        | false => exact no2 (hko.mpr (hb2 rfl)) _ _
        | true =>
          iterate 2 refine hV.go rfl ?_
          refine app (fun p hp => hb1 rfl p (by omega)) k 0 (by omega) w0 x6 ⟨?_, Sm.rf, fun _ _ => rfl⟩
          rw [show (List.range 0).map (byt x) = [] from rfl, List.append_nil]
          exact ⟨x1, x3⟩
      | succ c ih =>
        intro i hi b x6 hb1 hb2
        iterate 3 refine hV.go rfl ?_
        refine And.intro (fun hc => ?_) (fun _ => ?_)
        · have hc : nI k ≤ nI i := hc
          rw [nI_leI (by omega) (by omega)] at hc
          omega
        cases b with
        | false =>
          iterate 2 refine hV.go rfl ?_
          refine And.intro (fun _ => no2 (hko.mpr (hb2 rfl)) _ _) (fun hc => absurd rfl hc)
        | true =>
          have hbl := byt_lt x i
          iterate 2 refine hV.go rfl ?_
          refine And.intro (fun hc => absurd (show (1 : Int32) = 0 from hc) (by decide)) (fun _ => ?_)
          iterate 8 refine hV.go rfl ?_
          refine topI (V := V) (byt_sar x (show i < 8 by omega)) ?_
          have nok : ¬ okc (byt x i) → V 79 [some (vR 30), some (vJ x), none, some (vI (nI k)), some (vI 1), some (vI (nI i)), some (vI (nI (byt x i)))] [] w0 0 := by
            intro hno
            iterate 4 refine hV.go rfl ?_
            have := ih (i + 1) (by omega) false (some (vI (nI (byt x i)))) (fun z => absurd z (by decide)) (fun _ z => hno (z i (by omega)))
            rw [← nI_inc i] at this
            exact this
          iterate 4 refine hV.go rfl ?_
          refine And.intro (fun hc => ?_) (fun hc => ?_)
          · have hc : nI (byt x i) ≤ nI 31 := hc
            rw [nI_leI (by omega) (by decide)] at hc
            exact nok (fun z => by have := z.1; omega)
          · have hc : ¬ nI (byt x i) ≤ nI 31 := hc
            rw [nI_leI (by omega) (by decide)] at hc
            iterate 3 refine hV.go rfl ?_
            refine And.intro (fun hc2 => ?_) (fun hc2 => ?_)
            · have hc2 : nI 127 ≤ nI (byt x i) := hc2
              rw [nI_leI (by decide) (by omega)] at hc2
              exact nok (fun z => by have := z.2; omega)
            · have hc2 : ¬ nI 127 ≤ nI (byt x i) := hc2
              rw [nI_leI (by decide) (by omega)] at hc2
              iterate 5 refine hV.go rfl ?_
              have := ih (i + 1) (by omega) true (some (vI (nI (byt x i)))) (fun _ p hp => by
                by_cases e : p = i
                · rw [e]
                  exact ⟨by omega, by omega⟩
                · exact hb1 rfl p (by omega)) (fun z => absurd z (by decide))
              rw [← nI_inc i] at this
              exact this
    iterate 5 refine hV.go rfl ?_
    exact chk k 0 (by omega) true none (fun _ p hp => by omega) (fun z => absurd z (by decide))
  exact key _ rfl
theorem m_skip {w : Wd} {tx : List Nat} {i : Nat} {po : Option AV → Wd → Prop} (G : GM l E) (hw : MX w tx) (hi : i ≤ tx.length) (hpo : ∀ j, i ≤ j → j ≤ tx.length → (∀ p, i ≤ p → p < j → tx[p]? = some 32) → tx[j]? ≠ some 32 → po (some (vI (nI j))) w) : Ctr l E 1 0 mX5_skip [vR 30, vI (nI i)] w po noX := by
  refine Ctr.of (tw := []) G.1 G.2 oX5_ok pgX5_skip rfl (by decide) rfl rfl (Nat.le_of_ble_eq_true rfl) ?_
  intro V hV
  obtain ⟨x1, x2, x3⟩ := hw
  have loop : ∀ c j : Nat, j + c = tx.length → i ≤ j → (∀ p, i ≤ p → p < j → tx[p]? = some 32) → V 2 [some (vR 30), some (vI (nI i)), some (vI (nI j))] [] w 0 := by
    intro c
    induction c with
    | zero =>
      intro j hj hij hp
      iterate 3 refine hV.go rfl ?_
      refine topI (V := V) x1 ?_
      refine hV.go rfl ?_
      refine And.intro (fun _ => ?_) (fun hc => absurd (show nI tx.length ≤ nI j from nI_le (by omega) (by omega)) hc)
      repeat refine hV.go rfl ?_
      refine ⟨hpo j hij (by omega) hp ?_, Nat.le_refl _⟩
      rw [List.getElem?_eq_none (by omega)]
      exact fun z => by cases z
    | succ c ih =>
      intro j hj hij hp
      have hc : tx[j]? = some tx[j] := List.getElem?_eq_getElem (by omega)
      have hx := x3 j _ hc
      iterate 3 refine hV.go rfl ?_
      refine topI (V := V) x1 ?_
      refine hV.go rfl ?_
      refine And.intro (fun hc => ?_) (fun _ => ?_)
      · have hc : nI tx.length ≤ nI j := hc
        rw [nI_leI (by omega) (by omega)] at hc
        omega
      iterate 4 refine hV.go rfl ?_
      refine Exists.intro j (And.intro rfl (And.intro (show j < 60 by omega) ?_))
      refine topI (V := V) hx.1 ?_
      iterate 2 refine hV.go rfl ?_
      refine And.intro (fun h => ?_) (fun h => ?_)
      · have h : ¬ nI tx[j] = nI 32 := h
        rw [nI_eq (by omega) (by decide)] at h
        repeat refine hV.go rfl ?_
        refine ⟨hpo j hij (by omega) hp ?_, Nat.le_refl _⟩
        rw [hc]
        exact fun z => h (Option.some.inj z)
      · have h : nI tx[j] = nI 32 := Classical.not_not.mp h
        rw [nI_eq (by omega) (by decide)] at h
        iterate 2 refine hV.go rfl ?_
        have := ih (j + 1) (by omega) (by omega) (fun p a b => by
          by_cases e : p = j
          · rw [e, hc, h]
          · exact hp p a (by omega))
        rw [← nI_inc j] at this
        exact this
  iterate 2 refine hV.go rfl ?_
  exact loop (tx.length - i) i (by omega) (Nat.le_refl _) (fun p a b => by omega)
def isD (tx : List Nat) (i : Nat) : Prop := ∃ c, tx[i]? = some c ∧ 48 ≤ c ∧ c ≤ 57
theorem m_isDigit {w : Wd} {tx : List Nat} {i : Nat} (G : GM l E) (hw : MX w tx) (hi : i < 100) : Ctr l E 1 0 mX5_isDigit [vR 30, vI (nI i)] w (fun r u => r = some (vI (b2i (cd (isD tx i)))) ∧ u = w) noX := by
  refine Ctr.of (tw := []) G.1 G.2 oX5_ok pgX5_isDigit rfl (by decide) rfl rfl (Nat.le_of_ble_eq_true rfl) ?_
  intro V hV
  obtain ⟨x1, x2, x3⟩ := hw
  have no : ¬ isD tx i → V 34 [some (vR 30), some (vI (nI i))] [] w 0 := by
    intro h
    repeat refine hV.go rfl ?_
    rw [cd_f.mpr h]
    exact ⟨Or.inl rfl, ⟨rfl, rfl⟩, Nat.le_refl _⟩
  iterate 3 refine hV.go rfl ?_
  refine topI (V := V) x1 ?_
  refine hV.go rfl ?_
  refine And.intro (fun hc => ?_) (fun hc => ?_)
  · have hc : nI tx.length ≤ nI i := hc
    rw [nI_leI (by omega) (by omega)] at hc
    refine no (fun ⟨c, h, _⟩ => ?_)
    have := (List.getElem?_eq_some_iff.mp h).1
    omega
  have hc : ¬ nI tx.length ≤ nI i := hc
  rw [nI_leI (by omega) (by omega)] at hc
  have hg : tx[i]? = some tx[i] := List.getElem?_eq_getElem (by omega)
  have hx := x3 i _ hg
  iterate 4 refine hV.go rfl ?_
  refine Exists.intro i (And.intro rfl (And.intro (show i < 60 by omega) ?_))
  refine topI (V := V) hx.1 ?_
  iterate 2 refine hV.go rfl ?_
  refine And.intro (fun h => ?_) (fun h => ?_)
  · have h : nI tx[i] < nI 48 := h
    rw [nI_ltI (by omega) (by decide)] at h
    refine no (fun ⟨c, h1, h2, h3⟩ => ?_)
    rw [hg] at h1
    cases h1
    omega
  have h : ¬ nI tx[i] < nI 48 := h
  rw [nI_ltI (by omega) (by decide)] at h
  iterate 4 refine hV.go rfl ?_
  refine Exists.intro i (And.intro rfl (And.intro (show i < 60 by omega) ?_))
  refine topI (V := V) hx.1 ?_
  iterate 2 refine hV.go rfl ?_
  refine And.intro (fun h2 => ?_) (fun h2 => ?_)
  · have h2 : nI 57 < nI tx[i] := h2
    rw [nI_ltI (by decide) (by omega)] at h2
    refine no (fun ⟨c, h1, h2', h3⟩ => ?_)
    rw [hg] at h1
    cases h1
    omega
  · have h2 : ¬ nI 57 < nI tx[i] := h2
    rw [nI_ltI (by decide) (by omega)] at h2
    repeat refine hV.go rfl ?_
    rw [cd_t.mpr ⟨_, hg, by omega, by omega⟩]
    exact ⟨Or.inr rfl, ⟨rfl, rfl⟩, Nat.le_refl _⟩
end
