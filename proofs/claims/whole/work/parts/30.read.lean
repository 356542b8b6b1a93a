/-! cycles are read: state, numbers with the places of their cycles' heads, head -/
abbrev RQ : Type := Nat × List (Nat × Nat) × Nat
def lasN (ns : List (Nat × Nat)) : Nat × Nat := ns.getD (ns.length - 1) (0, 0)
def rdD (q : RQ) (d : Nat) : RQ := if q.1 = 2 ∨ q.1 = 4 then (3, q.2.1 ++ [(d, q.2.2)], q.2.2) else if q.1 = 3 ∧ 1 ≤ (lasN q.2.1).1 ∧ (lasN q.2.1).1 ≤ 9 then (3, q.2.1.set (q.2.1.length - 1) (10 * (lasN q.2.1).1 + d, (lasN q.2.1).2), q.2.2) else (0, q.2)
def rdS (q : RQ) (c : Nat) : RQ := if 48 ≤ c ∧ c ≤ 57 then rdD q (c - 48) else if c = 32 then (if q.1 = 3 then 4 else q.1, q.2) else if c = 40 ∧ q.1 = 1 then (2, q.2.1, q.2.1.length) else if c = 41 ∧ (q.1 = 3 ∨ q.1 = 4) then (1, q.2) else (0, q.2)
def rd0 : RQ := (1, [], 0)
def rdA (tx : List Nat) : RQ := tx.foldl rdS rd0
def RqB (q : RQ) : Prop := (∀ (i : Nat) (x : Nat × Nat), q.2.1[i]? = some x → x.1 < 100 ∧ x.2 ≤ i) ∧ q.2.2 ≤ q.2.1.length ∧ (q.1 = 3 → 0 < q.2.1.length) ∧ q.1 ≤ 4
def RqW (w : Wd) (q : RQ) : Prop := w.1 1 0 4 = nI q.2.1.length ∧ (∀ (i : Nat) (x : Nat × Nat), q.2.1[i]? = some x → w.1 8 0 i = nI x.1 ∧ w.1 9 0 i = nI x.2) ∧ (2 ≤ q.1 → w.1 1 0 5 = nI q.2.2)
theorem lasN_get {ns : List (Nat × Nat)} (h : 0 < ns.length) : ns[ns.length - 1]? = some (lasN ns) := by
  unfold lasN
  rw [List.getD_eq_getElem?_getD, List.getElem?_eq_getElem (by omega)]
  rfl
theorem rdD_B {q : RQ} (h : RqB q) {d : Nat} (hd : d < 10) : RqB (rdD q d) := by
  obtain ⟨h1, h2, h3, h4⟩ := h
  unfold rdD
  split
  · refine ⟨fun i x hx => ?_, by simp; omega, fun _ => by simp, (show 3 ≤ 4 by decide)⟩
    simp only at hx
    by_cases hi : i < q.2.1.length
    · rw [List.getElem?_append_left hi] at hx
      exact h1 i x hx
    · rw [List.getElem?_append_right (by omega)] at hx
      have hi2 : i - q.2.1.length < 1 := (List.getElem?_eq_some_iff.mp hx).1
      have hi3 : i = q.2.1.length := by omega
      subst hi3
      simp at hx
      subst hx
      exact ⟨by simp only; omega, h2⟩
  · split
    · rename_i hc
      have hp := h3 hc.1
      refine ⟨fun i x hx => ?_, by simpa using h2, fun _ => by simpa using hp, (show 3 ≤ 4 by decide)⟩
      simp only at hx
      by_cases hi : i = q.2.1.length - 1
      · subst hi
        rw [List.getElem?_set_self (by omega)] at hx
        cases hx
        exact ⟨by simp only; omega, (h1 _ _ (lasN_get hp)).2⟩
      · rw [List.getElem?_set_ne (by omega)] at hx
        exact h1 i x hx
    · exact ⟨h1, h2, (fun z => by cases z), (show 0 ≤ 4 by decide)⟩
theorem rdS_B {q : RQ} (h : RqB q) (c : Nat) : RqB (rdS q c) := by
  unfold rdS
  split
  · exact rdD_B h (by omega)
  · obtain ⟨h1, h2, h3, h4⟩ := h
    split
    · refine ⟨h1, h2, fun z => ?_, ?_⟩
      · simp only at z
        split at z
        · omega
        · exact h3 z
      · simp only
        split
        · decide
        · exact h4
    · split
      · exact ⟨h1, Nat.le_refl _, (fun z => by cases z), (show 2 ≤ 4 by decide)⟩
      · split
        · exact ⟨h1, h2, (fun z => by cases z), (show 1 ≤ 4 by decide)⟩
        · exact ⟨h1, h2, (fun z => by cases z), (show 0 ≤ 4 by decide)⟩
theorem rd0_B : RqB rd0 := ⟨(fun i x hx => by simp [rd0] at hx), Nat.le_refl _, (fun z => by cases z), (show 1 ≤ 4 by decide)⟩
theorem rdS_len (q : RQ) (c : Nat) : (rdS q c).2.1.length ≤ q.2.1.length + 1 := by
  unfold rdS rdD
  split
  · split
    · simp
    · split <;> simp
  · split
    · simp
    · split
      · simp
      · split <;> simp
theorem rdF_B (tx : List Nat) : ∀ q, RqB q → RqB (tx.foldl rdS q) := by
  induction tx with
  | nil => exact fun q h => h
  | cons c tx ih => exact fun q h => ih _ (rdS_B h c)
theorem rdF_len (tx : List Nat) : ∀ q : RQ, (tx.foldl rdS q).2.1.length ≤ q.2.1.length + tx.length := by
  induction tx with
  | nil => exact fun q => Nat.le_refl _
  | cons c tx ih =>
    intro q
    have h1 := ih (rdS q c)
    have h2 := rdS_len q c
    simp only [List.foldl_cons, List.length_cons]
    omega
theorem rdS_0 {q : RQ} (h : q.1 = 0) (c : Nat) : rdS q c = q := by
  obtain ⟨a, b⟩ := q
  simp only at h
  subst h
  unfold rdS rdD
  simp
theorem rdF_0 (tx : List Nat) : ∀ q : RQ, q.1 = 0 → tx.foldl rdS q = q := by
  induction tx with
  | nil => exact fun q _ => rfl
  | cons c tx ih =>
    intro q h
    rw [List.foldl_cons, rdS_0 h c]
    exact ih q h
theorem rd_take (tx : List Nat) {i c : Nat} (h : tx[i]? = some c) : rdA (tx.take (i + 1)) = rdS (rdA (tx.take i)) c := by
  unfold rdA
  rw [List.take_add_one, h, List.foldl_append]
  rfl
section
variable {l : Launch} {E : En}
theorem c_sbDigit {w : Wd} {tx : List Nat} {q : RQ} {d : Nat} {po : Option AV → Wd → Prop} (G : GC l E) (hw : TxW w tx) (hq : RqW w q) (hB : RqB q) (hl : q.2.1.length < 48) (hd : d < 10) (hpo : ∀ u, TxW u tx → RqW u (rdD q d) → Sm txK w u → po (some (vI (nI (rdD q d).1))) u) : Ctr l E 1 0 mX3_stateBehindDigit [vR 1, vI (nI q.1), vI (nI d)] w po noX := by
  refine Ctr.of (tw := []) G.1 G.2 oX3_ok pgX3_stateBehindDigit rfl (by decide) rfl rfl (Nat.le_of_ble_eq_true rfl) ?_
  intro V hV
  obtain ⟨q1, q2, q3⟩ := id hq
  obtain ⟨w1, w2, w3⟩ := id hw
  have h4 := hB.2.2.2
  have push : q.1 = 2 ∨ q.1 = 4 → V 10 [some (vR 1), some (vI (nI q.1)), some (vI (nI d)), none] [] w 0 := by
    intro hs
    have e : rdD q d = (3, q.2.1 ++ [(d, q.2.2)], q.2.2) := by unfold rdD; rw [if_pos hs]
    have hhd := q3 (by omega)
    iterate 4 refine hV.go rfl ?_
    refine topI (V := V) q1 ?_
    iterate 2 refine hV.go rfl ?_
    refine Exists.intro q.2.1.length (And.intro rfl (And.intro hl ?_))
    iterate 4 refine hV.go rfl ?_
    refine topI (V := V) (y := nI q.2.1.length) (by simp only [wI_get]; simpa using q1) ?_
    iterate 2 refine hV.go rfl ?_
    refine topI (V := V) (y := nI q.2.2) (by simp only [wI_get]; simpa using hhd) ?_
    refine hV.go rfl ?_
    refine Exists.intro q.2.1.length (And.intro rfl (And.intro hl ?_))
    iterate 3 refine hV.go rfl ?_
    refine topI (V := V) (y := nI q.2.1.length) (by simp only [wI_get]; simpa using q1) ?_
    iterate 2 refine hV.go rfl ?_
    refine topI (V := V) (nI_1 _) ?_
    iterate 3 refine hV.go rfl ?_
    refine ⟨?_, Nat.le_refl _⟩
    have := hpo (wI (wI (wI w 8 0 q.2.1.length (nI d)) 9 0 q.2.1.length (nI q.2.2)) 1 0 4 (nI (q.2.1.length + 1)))
    rw [e] at this
    refine this ⟨?_, w2, fun i c hc => ?_⟩ ⟨?_, fun i x hx => ?_, fun _ => ?_⟩ (Sm.wI (k := 1) (Sm.wI (k := 9) (Sm.wI (k := 8) Sm.rf (by decide)) (by decide)) (by decide))
    · simp only [wI_get]
      simpa using w1
    · simp only [wI_get]
      simpa using w3 i c hc
    · simp [wI_get]
    · simp only [wI_get]
      simp only at hx
      by_cases hi : i < q.2.1.length
      · rw [List.getElem?_append_left hi] at hx
        simpa [show ¬ i = q.2.1.length by omega] using q2 i x hx
      · rw [List.getElem?_append_right (by omega)] at hx
        have hi2 : i - q.2.1.length < 1 := (List.getElem?_eq_some_iff.mp hx).1
        have hi3 : i = q.2.1.length := by omega
        subst hi3
        simp at hx
        subst hx
        simp
    · simp only [wI_get]
      simpa using hhd
  iterate 3 refine hV.go rfl ?_
  refine And.intro (fun hc => ?_) (fun hc => ?_)
  · have hc : q.1 = 2 := (nI_eq (by omega) (by omega)).mp (show nI q.1 = nI 2 from hc)
    exact push (Or.inl hc)
  · have hc2 : ¬ q.1 = 2 := fun z => hc (show nI q.1 = nI 2 by rw [z])
    iterate 3 refine hV.go rfl ?_
    refine And.intro (fun hc => ?_) (fun hc => ?_)
    · have hc4 : ¬ q.1 = 4 := fun z => hc (show nI q.1 = nI 4 by rw [z])
      have fin : ∀ b, b < 2 ^ 31 → (q.1 = 3 ∧ 1 ≤ (lasN q.2.1).1 ∧ (lasN q.2.1).1 ≤ 9 ↔ 1 ≤ b ∧ b ≤ 9) → (1 ≤ b → q.1 = 3 ∧ b = (lasN q.2.1).1) → V 66 [some (vR 1), some (vI (nI q.1)), some (vI (nI d)), some (vI (nI b))] [] w 0 := by
        intro b hb hiff hb2
        have bad : ¬ (1 ≤ b ∧ b ≤ 9) → V 77 [some (vR 1), some (vI (nI q.1)), some (vI (nI d)), some (vI (nI b))] [] w 0 := by
          intro hno
          have e : rdD q d = (0, q.2) := by
            unfold rdD
            rw [if_neg (fun z => z.elim hc2 hc4), if_neg (fun z => hno (hiff.mp z))]
          repeat refine hV.go rfl ?_
          refine ⟨?_, Nat.le_refl _⟩
          have := hpo w hw
          rw [e] at this
          exact this ⟨q1, q2, fun z => by simp only at z; omega⟩ Sm.rf
        iterate 3 refine hV.go rfl ?_
        refine And.intro (fun hc => ?_) (fun hc => ?_)
        · have hc : nI b < nI 1 := hc
          rw [nI_ltI hb (by decide)] at hc
          exact bad (by omega)
        · have hc : ¬ nI b < nI 1 := hc
          rw [nI_ltI hb (by decide)] at hc
          iterate 3 refine hV.go rfl ?_
          refine And.intro (fun hc => ?_) (fun hc => ?_)
          · have hc9 : nI b ≤ nI 9 := hc
            rw [nI_leI hb (by decide)] at hc9
            obtain ⟨h3, hbe⟩ := hb2 (by omega)
            have hpos := hB.2.2.1 h3
            have e : rdD q d = (3, q.2.1.set (q.2.1.length - 1) (10 * b + d, (lasN q.2.1).2), q.2.2) := by
              unfold rdD
              rw [if_neg (fun z => z.elim hc2 hc4), if_pos (hiff.mpr ⟨by omega, by omega⟩), hbe]
            iterate 4 refine hV.go rfl ?_
            refine topI (V := V) (y := nI (q.2.1.length - 1 + 1)) (by rw [show q.2.1.length - 1 + 1 = q.2.1.length by omega]; exact q1) ?_
            iterate 2 refine hV.go rfl ?_
            refine topI (V := V) (nI_pred _) ?_
            iterate 3 refine hV.go rfl ?_
            refine topI (V := V) (show nI 10 * nI b = nI (10 * b) from pk_mul 10 b) ?_
            iterate 2 refine hV.go rfl ?_
            refine topI (V := V) (nI_add _ _) ?_
            refine hV.go rfl ?_
            refine Exists.intro (q.2.1.length - 1) (And.intro rfl (And.intro (show q.2.1.length - 1 < 48 by omega) ?_))
            iterate 2 refine hV.go rfl ?_
            refine ⟨?_, Nat.le_refl _⟩
            have := hpo (wI w 8 0 (q.2.1.length - 1) (nI (10 * b + d)))
            rw [e] at this
            refine this ⟨?_, w2, fun i c hc => ?_⟩ ⟨?_, fun i x hx => ?_, fun _ => ?_⟩ (Sm.wI (k := 8) Sm.rf (by decide))
            · simp only [wI_get]
              simpa using w1
            · simp only [wI_get]
              simpa using w3 i c hc
            · simp only [wI_get]
              simpa using q1
            · simp only [wI_get]
              simp only at hx
              by_cases hi : i = q.2.1.length - 1
              · subst hi
                rw [List.getElem?_set_self (by omega)] at hx
                cases hx
                simp
                exact (q2 _ _ (lasN_get hpos)).2
              · rw [List.getElem?_set_ne (by omega)] at hx
                simpa [hi] using q2 i x hx
            · simp only [wI_get]
              simpa using q3 (by omega)
          · have hc9 : ¬ nI b ≤ nI 9 := hc
            rw [nI_leI hb (by decide)] at hc9
            exact bad (by omega)
      iterate 3 refine hV.go rfl ?_
      refine And.intro (fun hc => ?_) (fun hc => ?_)
      · have hc3 : ¬ q.1 = 3 := fun z => hc (show nI q.1 = nI 3 by rw [z])
        iterate 2 refine hV.go rfl ?_
        exact fin 0 (by decide) ⟨fun z => absurd z.1 hc3, fun z => by omega⟩ (fun z => by omega)
      · have hc3 : q.1 = 3 := (nI_eq (by omega) (by omega)).mp (show nI q.1 = nI 3 from Classical.not_not.mp hc)
        have hpos := hB.2.2.1 hc3
        have hlb := (hB.1 _ _ (lasN_get hpos)).1
        iterate 4 refine hV.go rfl ?_
        refine topI (V := V) (y := nI (q.2.1.length - 1 + 1)) (by rw [show q.2.1.length - 1 + 1 = q.2.1.length by omega]; exact q1) ?_
        iterate 2 refine hV.go rfl ?_
        refine topI (V := V) (nI_pred _) ?_
        refine hV.go rfl ?_
        refine Exists.intro (q.2.1.length - 1) (And.intro rfl (And.intro (show q.2.1.length - 1 < 48 by omega) ?_))
        refine topI (V := V) (q2 _ _ (lasN_get hpos)).1 ?_
        iterate 2 refine hV.go rfl ?_
        exact fin (lasN q.2.1).1 (by omega) ⟨fun z => z.2, fun z => ⟨hc3, z⟩⟩ (fun _ => ⟨hc3, rfl⟩)
    · have hc4 : q.1 = 4 := (nI_eq (by omega) (by omega)).mp (show nI q.1 = nI 4 from Classical.not_not.mp hc)
      exact push (Or.inr hc4)
theorem c_sb {w : Wd} {tx : List Nat} {q : RQ} {c : Nat} {po : Option AV → Wd → Prop} (G : GC l E) (hw : TxW w tx) (hq : RqW w q) (hB : RqB q) (hl : q.2.1.length < 48) (hc : c < 128) (hpo : ∀ u, TxW u tx → RqW u (rdS q c) → Sm txK w u → po (some (vI (nI (rdS q c).1))) u) : Ctr l E 2 0 mX3_stateBehind [vR 1, vI (nI q.1), vI (nI c)] w po noX := by
  refine Ctr.of (tw := []) G.1 G.2 oX3_ok pgX3_stateBehind rfl (by decide) rfl rfl (Nat.le_of_ble_eq_true rfl) ?_
  intro V hV
  obtain ⟨q1, q2, q3⟩ := id hq
  obtain ⟨w1, w2, w3⟩ := id hw
  have h4 := hB.2.2.2
  have nodig : ¬ (48 ≤ c ∧ c ≤ 57) → V 22 [some (vR 1), some (vI (nI q.1)), some (vI (nI c)), none] [] w 0 := by
    intro hnd
    iterate 3 refine hV.go rfl ?_
    refine And.intro (fun hc => ?_) (fun hc => ?_)
    · have hc32 : ¬ c = 32 := fun z => hc (show nI c = nI 32 by rw [z])
      have other : ¬ (c = 40 ∧ q.1 = 1) → V 60 [some (vR 1), some (vI (nI q.1)), some (vI (nI c)), none] [] w 0 := by
        intro hno
        have fin : ∀ b : Bool, (b = true ↔ c = 41 ∧ (q.1 = 3 ∨ q.1 = 4)) → V 81 [some (vR 1), some (vI (nI q.1)), some (vI (nI c)), none] [vI (b2i b)] w 0 := by
          intro b hb
          iterate 2 refine hV.go rfl ?_
          refine hV.go rfl ?_
          refine And.intro (fun hc => ?_) (fun hc => ?_)
          · have hbf := b2i_eq.mp hc
            have e : rdS q c = (0, q.2) := by
              unfold rdS
              rw [if_neg hnd, if_neg hc32, if_neg hno, if_neg (fun z => by rw [hb.mpr z] at hbf; cases hbf)]
            repeat refine hV.go rfl ?_
            refine ⟨?_, Nat.le_refl _⟩
            have := hpo w hw
            rw [e] at this
            exact this ⟨q1, q2, fun z => by simp only at z; omega⟩ Sm.rf
          · have hbt := b2i_ne.mp hc
            have e : rdS q c = (1, q.2) := by
              unfold rdS
              rw [if_neg hnd, if_neg hc32, if_neg hno, if_pos (hb.mp hbt)]
            repeat refine hV.go rfl ?_
            refine ⟨?_, Nat.le_refl _⟩
            have := hpo w hw
            rw [e] at this
            exact this ⟨q1, q2, fun z => by simp only at z; omega⟩ Sm.rf
        iterate 3 refine hV.go rfl ?_
        refine And.intro (fun hc => ?_) (fun hc => ?_)
        · have hc41 : ¬ c = 41 := fun z => hc (show nI c = nI 41 by rw [z])
          refine hV.go rfl ?_
          exact fin false ⟨(fun z => by cases z), fun z => absurd z.1 hc41⟩
        · have hc41 : c = 41 := (nI_eq (by omega) (by omega)).mp (show nI c = nI 41 from Classical.not_not.mp hc)
          iterate 3 refine hV.go rfl ?_
          refine And.intro (fun hc => ?_) (fun hc => ?_)
          · have hc3 : q.1 = 3 := (nI_eq (by omega) (by omega)).mp (show nI q.1 = nI 3 from hc)
            iterate 2 refine hV.go rfl ?_
            exact fin true ⟨fun _ => ⟨hc41, Or.inl hc3⟩, fun _ => rfl⟩
          · have hc3 : ¬ q.1 = 3 := fun z => hc (show nI q.1 = nI 3 by rw [z])
            iterate 3 refine hV.go rfl ?_
            refine And.intro (fun hc => ?_) (fun hc => ?_)
            · have hc4 : ¬ q.1 = 4 := fun z => hc (show nI q.1 = nI 4 by rw [z])
              refine hV.go rfl ?_
              exact fin false ⟨(fun z => by cases z), fun z => absurd z.2 (fun y => y.elim hc3 hc4)⟩
            · have hc4 : q.1 = 4 := (nI_eq (by omega) (by omega)).mp (show nI q.1 = nI 4 from Classical.not_not.mp hc)
              iterate 2 refine hV.go rfl ?_
              exact fin true ⟨fun _ => ⟨hc41, Or.inr hc4⟩, fun _ => rfl⟩
      iterate 3 refine hV.go rfl ?_
      refine And.intro (fun hc => ?_) (fun hc => ?_)
      · have hc40 : ¬ c = 40 := fun z => hc (show nI c = nI 40 by rw [z])
        exact other (fun z => hc40 z.1)
      · have hc40 : c = 40 := (nI_eq (by omega) (by omega)).mp (show nI c = nI 40 from Classical.not_not.mp hc)
        iterate 3 refine hV.go rfl ?_
        refine And.intro (fun hc => ?_) (fun hc => ?_)
        · have hc1 : ¬ q.1 = 1 := fun z => hc (show nI q.1 = nI 1 by rw [z])
          exact other (fun z => hc1 z.2)
        · have hc1 : q.1 = 1 := (nI_eq (by omega) (by omega)).mp (show nI q.1 = nI 1 from Classical.not_not.mp hc)
          have e : rdS q c = (2, q.2.1, q.2.1.length) := by
            unfold rdS
            rw [if_neg hnd, if_neg hc32, if_pos ⟨hc40, hc1⟩]
          iterate 3 refine hV.go rfl ?_
          refine topI (V := V) q1 ?_
          iterate 3 refine hV.go rfl ?_
          refine ⟨?_, Nat.le_refl _⟩
          have := hpo (wI w 1 0 5 (nI q.2.1.length))
          rw [e] at this
          refine this ⟨?_, w2, fun i c hc => ?_⟩ ⟨?_, fun i x hx => ?_, fun _ => ?_⟩ (Sm.wI (k := 1) Sm.rf (by decide))
          · simp only [wI_get]
            simpa using w1
          · simp only [wI_get]
            simpa using w3 i c hc
          · simp only [wI_get]
            simpa using q1
          · simp only [wI_get]
            simpa using q2 i x hx
          · simp [wI_get]
    · have hc32 : c = 32 := (nI_eq (by omega) (by omega)).mp (show nI c = nI 32 from Classical.not_not.mp hc)
      iterate 3 refine hV.go rfl ?_
      refine And.intro (fun hc => ?_) (fun hc => ?_)
      · have hc3 : ¬ q.1 = 3 := fun z => hc (show nI q.1 = nI 3 by rw [z])
        have e : rdS q c = q := by
          unfold rdS
          rw [if_neg hnd, if_pos hc32, if_neg hc3]
        repeat refine hV.go rfl ?_
        refine ⟨?_, Nat.le_refl _⟩
        have := hpo w hw
        rw [e] at this
        exact this hq Sm.rf
      · have hc3 : q.1 = 3 := (nI_eq (by omega) (by omega)).mp (show nI q.1 = nI 3 from Classical.not_not.mp hc)
        have e : rdS q c = (4, q.2) := by
          unfold rdS
          rw [if_neg hnd, if_pos hc32, if_pos hc3]
        repeat refine hV.go rfl ?_
        refine ⟨?_, Nat.le_refl _⟩
        have := hpo w hw
        rw [e] at this
        exact this ⟨q1, q2, fun _ => q3 (by omega)⟩ Sm.rf
  iterate 3 refine hV.go rfl ?_
  refine And.intro (fun hc => ?_) (fun hc => ?_)
  · have hc : nI c < nI 48 := hc
    rw [nI_ltI (by omega) (by decide)] at hc
    exact nodig (by omega)
  · have hc48 : ¬ nI c < nI 48 := hc
    rw [nI_ltI (by omega) (by decide)] at hc48
    iterate 3 refine hV.go rfl ?_
    refine And.intro (fun hc => ?_) (fun hc => ?_)
    · have hc : nI 57 < nI c := hc
      rw [nI_ltI (by decide) (by omega)] at hc
      exact nodig (by omega)
    · have hc57 : ¬ nI 57 < nI c := hc
      rw [nI_ltI (by decide) (by omega)] at hc57
      have e : rdS q c = rdD q (c - 48) := by
        unfold rdS
        rw [if_pos ⟨by omega, by omega⟩]
      rw [e] at hpo
      iterate 5 refine hV.go rfl ?_
      refine topI (V := V) (show nI c - nI 48 = nI (c - 48) from pk_sub (by omega)) ?_
      refine hV.go rfl ?_
      refine And.intro (callP_r (c_sbDigit (d := c - 48) (po := fun v z => v = some (vI (nI (rdD q (c - 48)).1)) ∧ TxW z tx ∧ RqW z (rdD q (c - 48)) ∧ Sm txK w z) G hw hq hB hl (by omega) (fun u y1 y2 y3 => ⟨rfl, y1, y2, y3⟩)) (by decide) (by decide) (fun v z hp => ?_)) trivial
      obtain ⟨rfl, y1, y2, y3⟩ := hp
      refine hV.go rfl ?_
      exact ⟨hpo z y1 y2 y3, Nat.le_refl _⟩
theorem c_readCycles {w : Wd} {tx : List Nat} {po : Option AV → Wd → Prop} (G : GC l E) (hw : TxW w tx) (hpo : ∀ u, TxW u tx → RqW u (rdA tx) → Sm txK w u → po (some (vI (b2i (decide ((rdA tx).1 = 1))))) u) : Ctr l E 3 0 mX3_readCycles [vR 1] w po noX := by
  refine Ctr.of (tw := []) G.1 G.2 oX3_ok pgX3_readCycles rfl (by decide) rfl rfl (Nat.le_of_ble_eq_true rfl) ?_
  intro V hV
  have fin : ∀ u, TxW u tx → RqW u (rdA tx) → Sm txK w u → ∀ x2, V 39 [some (vR 1), some (vI (nI (rdA tx).1)), x2] [] u 0 := by
    intro u hu hq hsm x2
    have h4 := (rdF_B tx rd0 rd0_B).2.2.2
    have h4 : (rdA tx).1 ≤ 4 := h4
    have := hpo u hu hq hsm
    iterate 3 refine hV.go rfl ?_
    refine And.intro (fun hc => ?_) (fun hc => ?_)
    · have hc : ¬ (rdA tx).1 = 1 := fun z => hc (show nI (rdA tx).1 = nI 1 by rw [z])
      rw [decide_eq_false hc] at this
      repeat refine hV.go rfl ?_
      exact ⟨Or.inl rfl, this, Nat.le_refl _⟩
    · have hc : (rdA tx).1 = 1 := (nI_eq (by omega) (by omega)).mp (show nI (rdA tx).1 = nI 1 from Classical.not_not.mp hc)
      rw [decide_eq_true hc] at this
      repeat refine hV.go rfl ?_
      exact ⟨Or.inr rfl, this, Nat.le_refl _⟩
  have hl48 := hw.2.1
  have loop : ∀ c i : Nat, i + c = tx.length → ∀ u, TxW u tx → RqW u (rdA (tx.take i)) → Sm txK w u → V 9 [some (vR 1), some (vI (nI (rdA (tx.take i)).1)), some (vI (nI i))] [] u 0 := by
    intro c
    induction c with
    | zero =>
      intro i hi u hu hq hsm
      rw [List.take_of_length_le (by omega)] at hq ⊢
      iterate 3 refine hV.go rfl ?_
      refine topI (V := V) hu.1 ?_
      refine hV.go rfl ?_
      refine And.intro (fun hc => ?_) (fun hc => ?_)
      · exact fin u hu hq hsm _
      · exact absurd (show nI tx.length ≤ nI i from nI_le (by omega) (by omega)) hc
    | succ c ih =>
      intro i hi u hu hq hsm
      have hB : RqB (rdA (tx.take i)) := rdF_B _ rd0 rd0_B
      have h4 := hB.2.2.2
      have hget : tx[i]? = some tx[i] := List.getElem?_eq_getElem (by omega)
      have hch := hu.2.2 i _ hget
      iterate 3 refine hV.go rfl ?_
      refine topI (V := V) hu.1 ?_
      refine hV.go rfl ?_
      refine And.intro (fun hc => ?_) (fun hc => ?_)
      · have hc : nI tx.length ≤ nI i := hc
        rw [nI_leI (by omega) (by omega)] at hc
        omega
      · iterate 2 refine hV.go rfl ?_
        refine And.intro (fun hc => ?_) (fun hc => ?_)
        · have hc : (rdA (tx.take i)).1 = 0 := (nI_eq (by omega) (by omega)).mp (show nI (rdA (tx.take i)).1 = nI 0 from hc)
          have e : rdA tx = rdA (tx.take i) := by
            conv => lhs; rw [← List.take_append_drop i tx]
            unfold rdA
            rw [List.foldl_append]
            exact rdF_0 _ _ hc
          rw [← e] at hq ⊢
          exact fin u hu hq hsm _
        · repeat refine hV.go rfl ?_
          refine Exists.intro i (And.intro rfl (And.intro (show i < 48 by omega) ?_))
          refine topI (V := V) hch.1 ?_
          refine hV.go rfl ?_
          have hlen := rdF_len (tx.take i) rd0
          have e := rd_take tx hget
          refine And.intro (callP_r (c_sb (c := tx[i]) (po := fun v z => v = some (vI (nI (rdS (rdA (tx.take i)) tx[i]).1)) ∧ TxW z tx ∧ RqW z (rdS (rdA (tx.take i)) tx[i]) ∧ Sm txK u z) G hu hq hB (by
            rw [List.length_take] at hlen
            have : (rdA (tx.take i)).2.1.length ≤ 0 + min i tx.length := hlen
            omega) hch.2 (fun z y1 y2 y3 => ⟨rfl, y1, y2, y3⟩)) (by decide) (by decide) (fun v z hp => ?_)) trivial
          obtain ⟨rfl, y1, y2, y3⟩ := hp
          iterate 3 refine hV.go rfl ?_
          have := ih (i + 1) (by omega) z y1 (by rw [e]; exact y2) (hsm.tr y3)
          rw [e, ← nI_inc] at this
          exact this
  iterate 7 refine hV.go rfl ?_
  refine loop tx.length 0 (by omega) _ ⟨?_, hl48, fun i c hc => ?_⟩ ⟨?_, fun i x hx => ?_, fun z => ?_⟩ (Sm.wI (k := 1) Sm.rf (by decide))
  · simp only [wI_get]
    simpa using hw.1
  · simp only [wI_get]
    simpa using hw.2.2 i c hc
  · simp [wI_get, rdA, rd0]
    rfl
  · simp [rdA, rd0] at hx
  · have z : 2 ≤ 1 := z
    omega
end
