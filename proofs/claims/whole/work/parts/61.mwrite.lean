/-! the reference writes -/
def MXw (w : Wd) (tx : List Nat) : Prop := w.1 30 0 5 = nI tx.length ∧ ∀ i c, tx[i]? = some c → w.1 33 0 i = nI c ∧ c < 128
/-- only the text is longer -/
def TXF (w u : Wd) (tx : List Nat) : Prop := MXw u tx ∧ Sm [30, 33] w u ∧ ∀ j, j ≠ 5 → u.1 30 0 j = w.1 30 0 j
theorem TXF.tr {w u v : Wd} {a b : List Nat} (h : TXF w u a) (h' : TXF u v b) : TXF w v b := ⟨h'.1, h.2.1.tr h'.2.1, fun j hj => (h'.2.2 j hj).trans (h.2.2 j hj)⟩
theorem m1_of {x : Int32} (h1 : ¬ x < -1) (h2 : x < 0) : x = -1 := by
  have h1 := Int32.not_lt.mp h1
  rw [Int32.le_iff_toInt_le] at h1
  rw [Int32.lt_iff_toInt_lt] at h2
  apply Int32.toInt_inj.mp
  have e1 : (-1 : Int32).toInt = -1 := by decide
  have e2 : (0 : Int32).toInt = 0 := by decide
  omega
section
variable {l : Launch} {E : En}
theorem m_say {w : Wd} {tx : List Nat} {c : Nat} {po : Option AV → Wd → Prop} (G : GM l E) (hw : MXw w tx) (hl : tx.length < 60) (hc : c < 128) (hpo : ∀ u, TXF w u (tx ++ [c]) → po none u) : Ctr l E 1 0 mX5_say [vR 30, vI (nI c)] w po noX := by
  refine Ctr.of (tw := []) G.1 G.2 oX5_ok pgX5_say rfl (by decide) rfl rfl (Nat.le_of_ble_eq_true rfl) ?_
  intro V hV
  iterate 4 refine hV.go rfl ?_
  refine topI (V := V) hw.1 ?_
  iterate 2 refine hV.go rfl ?_
  refine Exists.intro tx.length (And.intro rfl (And.intro hl ?_))
  iterate 3 refine hV.go rfl ?_
  refine topI (V := V) (show (wI w 33 0 tx.length (nI c)).1 30 0 5 = nI tx.length by rw [wI_ne (by omega)]; exact hw.1) ?_
  iterate 2 refine hV.go rfl ?_
  refine topI (V := V) (nI_1 _) ?_
  iterate 2 refine hV.go rfl ?_
  refine ⟨hpo _ ⟨⟨?_, fun i d hd => ?_⟩, Sm.wI (k := 30) (Sm.wI (k := 33) Sm.rf (by decide)) (by decide), fun j hj => ?_⟩, Nat.le_refl _⟩
  · rw [wI_eq, List.length_append]
    rfl
  · rw [wI_ne (by omega)]
    by_cases e : i < tx.length
    · rw [List.getElem?_append_left e] at hd
      rw [wI_ne (by omega)]
      exact hw.2 i d hd
    · rw [List.getElem?_append_right (by omega)] at hd
      have hb2 : i - tx.length < 1 := (List.getElem?_eq_some_iff.mp hd).1
      rw [show i - tx.length = 0 by omega] at hd
      cases hd
      rw [show i = tx.length by omega, wI_eq]
      exact ⟨rfl, hc⟩
  · rw [wI_ne (by omega)]
    exact wI_ne (w := w) (k := 33) (i := 0) (j := tx.length) (x := nI c) (by omega)
theorem m_sayNumber {w : Wd} {tx : List Nat} {v : Nat} {po : Option AV → Wd → Prop} (G : GM l E) (hw : MXw w tx) (hl : tx.length + 2 ≤ 60) (hv : v < 12) (hpo : ∀ u, TXF w u (tx ++ num v) → po none u) : Ctr l E 2 0 mX5_sayNumber [vR 30, vI (nI v)] w po noX := by
  refine Ctr.of (tw := []) G.1 G.2 oX5_ok pgX5_sayNumber rfl (by decide) rfl rfl (Nat.le_of_ble_eq_true rfl) ?_
  intro V hV
  have low : ∀ (u : Wd) (t1 : List Nat), MXw u t1 → t1.length < 60 → Sm [30, 33] w u → (∀ j, j ≠ 5 → u.1 30 0 j = w.1 30 0 j) → t1 ++ [48 + v % 10] = tx ++ num v → V 12 [some (vR 30), some (vI (nI v))] [] u 0 := by
    intro u t1 hu hlt hsm hj e
    iterate 5 refine hV.go rfl ?_
    refine And.intro (by decide) ?_
    refine topI (V := V) (show nI v - nI v / nI 10 * nI 10 = nI (v % 10) from pk_rem (by omega) (by decide) (by decide)) ?_
    refine hV.go rfl ?_
    refine topI (V := V) (show nI 48 + nI (v % 10) = nI (48 + v % 10) from nI_add _ _) ?_
    refine hV.go rfl ?_
    refine And.intro (callP_r (m_say (po := fun r z => r = none ∧ TXF u z (t1 ++ [48 + v % 10])) G hu hlt (by omega) (fun z y1 => ⟨rfl, y1⟩)) (by decide) (by decide) (fun r z hp => ?_)) trivial
    obtain ⟨rfl, y1⟩ := hp
    refine hV.go rfl ?_
    rw [e] at y1
    exact ⟨hpo z ⟨y1.1, hsm.tr y1.2.1, fun j h => (y1.2.2 j h).trans (hj j h)⟩, Nat.le_refl _⟩
  iterate 3 refine hV.go rfl ?_
  refine And.intro (fun hc => ?_) (fun hc => ?_)
  · have hc : nI v ≤ nI 9 := hc
    rw [nI_leI (by omega) (by decide)] at hc
    exact low w tx hw (by omega) Sm.rf (fun _ _ => rfl) (by unfold num; rw [if_neg (by omega)]; rfl)
  · have hc : ¬ nI v ≤ nI 9 := hc
    rw [nI_leI (by omega) (by decide)] at hc
    iterate 3 refine hV.go rfl ?_
    refine And.intro (callP_r (m_say (c := 49) (po := fun r z => r = none ∧ TXF w z (tx ++ [49])) G hw (by omega) (by decide) (fun z y1 => ⟨rfl, y1⟩)) (by decide) (by decide) (fun r z hp => ?_)) trivial
    obtain ⟨rfl, y1⟩ := hp
    exact low z _ y1.1 (by simp; omega) y1.2.1 y1.2.2 (by unfold num; rw [if_pos (by omega), show 48 + v / 10 = 49 by omega, List.append_assoc])
theorem m_write {w : Wd} {A : AS} {x : Int32} {po : Option AV → Wd → Prop} (G : GM l E) (hw : QI w A) (h1 : ∀ f, ((x = -1 ∧ f = A.2.2.1) ∨ ∃ i, A.2.1[i]? = some f ∧ x = nI i) → ∀ u, QI u (A.1, A.2.1, A.2.2.1, wrL f 12 0 [], A.2.2.2.2) → u.1 30 0 0 = 0 → Sm mdK w u → po (some (vI (nI (wrL f 12 0 []).length))) u) (h2 : x ≠ -1 → (x < 0 ∨ nI A.2.1.length ≤ x) → ∀ u, QI u A → u.1 30 0 0 = 1 → Sm mdK w u → po (some (vI 0)) u) : Ctr l E 3 0 mX5_write [vR 30, vI x] w po noX := by
  refine Ctr.of (tw := []) G.1 G.2 oX5_ok pgX5_write rfl (by decide) rfl rfl (Nat.le_of_ble_eq_true rfl) ?_
  intro V hV
  obtain ⟨n1, n2, n3, n4, n5, n6, n7⟩ := id hw.1
  have bad : x ≠ -1 → (x < 0 ∨ nI A.2.1.length ≤ x) → V 14 [some (vR 30), some (vI x), none, none, none] [vR 30] w 0 := by
    intro hx hb
    iterate 5 refine hV.go rfl ?_
    refine topI (V := V) (show (wI w 30 0 0 1).1 30 0 0 = 1 from wI_eq) ?_
    refine hV.go rfl ?_
    refine And.intro (fun hc => absurd (show (1 : Int32) ≤ 0 from hc) (by decide)) (fun _ => ?_)
    repeat refine hV.go rfl ?_
    exact ⟨h2 hx hb _ (hw.th _) wI_eq (Sm.wI (k := 30) Sm.rf (by decide)), Nat.le_refl _⟩
  have main : ∀ f, ((x = -1 ∧ f = A.2.2.1) ∨ ∃ i, A.2.1[i]? = some f ∧ x = nI i) → V 18 [some (vR 30), some (vI x), none, none, none] [vR 30] w 0 := by
    intro f hor
    have hL : Lw A.1 f := by
      rcases hor with ⟨-, rfl⟩ | ⟨i, hi, -⟩
      · exact n3
      · exact n2.2 f (List.mem_of_getElem? hi)
    have hf := hL.1
    iterate 4 refine hV.go rfl ?_
    refine topI (V := V) (show (wI w 30 0 0 0).1 30 0 0 = 0 from wI_eq) ?_
    refine hV.go rfl ?_
    refine And.intro (fun _ => ?_) (fun hc => absurd (show (0 : Int32) ≤ 0 by decide) hc)
    iterate 3 refine hV.go rfl ?_
    have key : ∀ w0 : Wd, MXw w0 [] → Sm [30] w w0 → (∀ j, j ≠ 0 → j ≠ 5 → w0.1 30 0 j = w.1 30 0 j) → w0.1 30 0 0 = 0 → V 36 [some (vR 30), some (vI x), none, none, none] [] w0 0 := by
      intro w0 hx0 hs0 hj0 hc0
      -- the place after p
      have valA : ∀ u tx p (y2 : Int32) (x4 : Option AV), TXF w0 u tx → p < A.1 → V 72 [some (vR 30), some (vI x), some (vI y2), some (vI (nI p)), x4] [vI (nI (f p))] u 0 → V 48 [some (vR 30), some (vI x), some (vI y2), some (vI (nI p)), x4] [] u 0 := by
        intro u tx p y2 x4 hu hp hk
        iterate 2 refine hV.go rfl ?_
        rcases hor with ⟨rfl, rfl⟩ | ⟨i, hi, rfl⟩
        · refine And.intro (fun hc => absurd (show (0 : Int32) ≤ -1 from hc) (by decide)) (fun _ => ?_)
          iterate 4 refine hV.go rfl ?_
          refine Exists.intro p (And.intro rfl (And.intro (show p < 12 by omega) ?_))
          refine topI (V := V) (show u.1 32 0 p = nI (A.2.2.1 p) by rw [(hu.2.1 32 (by decide)).1, (hs0 32 (by decide)).1]; exact n7 p hp) ?_
          refine hV.go rfl ?_
          exact hk
        · have hil := (List.getElem?_eq_some_iff.mp hi).1
          refine And.intro (fun _ => ?_) (fun hc => absurd (show nI 0 ≤ nI i from nI_le (by omega) (by omega)) hc)
          iterate 5 refine hV.go rfl ?_
          refine topI (V := V) (nI_mul 12 i) ?_
          iterate 2 refine hV.go rfl ?_
          refine topI (V := V) (nI_add _ _) ?_
          refine hV.go rfl ?_
          refine Exists.intro (12 * i + p) (And.intro rfl (And.intro (show 12 * i + p < 120 by omega) ?_))
          refine topI (V := V) (show u.1 31 0 (12 * i + p) = nI (f p) by rw [(hu.2.1 31 (by decide)).1, (hs0 31 (by decide)).1]; exact (n6 i f hi p (by omega)).1) ?_
          exact hk
      have valB : ∀ u tx q (y2 y3 : Int32), TXF w0 u tx → q < A.1 → V 156 [some (vR 30), some (vI x), some (vI y2), some (vI y3), some (vI (nI q))] [vI (nI (f q))] u 0 → V 130 [some (vR 30), some (vI x), some (vI y2), some (vI y3), some (vI (nI q))] [] u 0 := by
        intro u tx p y2 y3 hu hp hk
        iterate 2 refine hV.go rfl ?_
        rcases hor with ⟨rfl, rfl⟩ | ⟨i, hi, rfl⟩
        · refine And.intro (fun hc => absurd (show (0 : Int32) ≤ -1 from hc) (by decide)) (fun _ => ?_)
          iterate 4 refine hV.go rfl ?_
          refine Exists.intro p (And.intro rfl (And.intro (show p < 12 by omega) ?_))
          refine topI (V := V) (show u.1 32 0 p = nI (A.2.2.1 p) by rw [(hu.2.1 32 (by decide)).1, (hs0 32 (by decide)).1]; exact n7 p hp) ?_
          refine hV.go rfl ?_
          exact hk
        · have hil := (List.getElem?_eq_some_iff.mp hi).1
          refine And.intro (fun _ => ?_) (fun hc => absurd (show nI 0 ≤ nI i from nI_le (by omega) (by omega)) hc)
          iterate 5 refine hV.go rfl ?_
          refine topI (V := V) (nI_mul 12 i) ?_
          iterate 2 refine hV.go rfl ?_
          refine topI (V := V) (nI_add _ _) ?_
          refine hV.go rfl ?_
          refine Exists.intro (12 * i + p) (And.intro rfl (And.intro (show 12 * i + p < 120 by omega) ?_))
          refine topI (V := V) (show u.1 31 0 (12 * i + p) = nI (f p) by rw [(hu.2.1 31 (by decide)).1, (hs0 31 (by decide)).1]; exact (n6 i f hi p (by omega)).1) ?_
          exact hk
      have wr0 : ∀ m p vis, p + m = 12 → A.1 ≤ p → wrL f m p vis = [] := by
        intro m
        induction m with
        | zero => exact fun _ _ _ _ => rfl
        | succ m ih =>
          intro p vis hp hA
          unfold wrL
          rw [if_neg (fun z => z.2 (hL.2 p hA))]
          exact ih (p + 1) vis (by omega) (by omega)
      have loop : ∀ c p : Nat, p + c = A.1 → ∀ (u : Wd) (tx vis : List Nat) (x4 : Option AV), TXF w0 u tx → Vi f vis → tx.length ≤ 4 * vis.length → tx ++ wrL f (12 - p) p vis = wrL f 12 0 [] → V 40 [some (vR 30), some (vI x), some (vI (nI (msk vis))), some (vI (nI p)), x4] [] u 0 := by
        intro c
        induction c with
        | zero =>
          intro p hp u tx vis x4 hu hvi hlen he
          rw [wr0 (12 - p) p vis (by omega) (by omega), List.append_nil] at he
          have hvl := nodup_len hvi.1 hvi.2.1
          iterate 3 refine hV.go rfl ?_
          refine topI (V := V) (show u.1 30 0 1 = nI A.1 by rw [hu.2.2 1 (by decide), hj0 1 (by decide) (by decide)]; exact n4) ?_
          refine hV.go rfl ?_
          refine And.intro (fun _ => ?_) (fun hc => absurd (show nI A.1 ≤ nI p from nI_le (by omega) (by omega)) hc)
          iterate 2 refine hV.go rfl ?_
          refine topI (V := V) hu.1.1 ?_
          refine hV.go rfl ?_
          have g : ∀ j, j ≠ 0 → j ≠ 5 → u.1 30 0 j = w.1 30 0 j := fun j a b => (hu.2.2 j b).trans (hj0 j a b)
          have g1 : ∀ k, k ∉ [30, 33] → u.1 k = w.1 k := fun k hk => ((hs0.mono (by decide)).tr hu.2.1 k hk).1
          have := h1 f hor u ⟨hw.1.cg (g 1 (by decide) (by decide)) (g 2 (by decide) (by decide)) (g1 31 (by decide)) (g1 32 (by decide)), by
            show MX u (wrL f 12 0 [])
            rw [← he]
            exact ⟨hu.1.1, by omega, hu.1.2⟩, hw.2.2.1.cg (g 16 (by decide) (by decide)) (g1 41 (by decide)), hw.2.2.2.cg (g 7 (by decide) (by decide)) (g 13 (by decide) (by decide)) (g1 34 (by decide)) (g1 35 (by decide)) (g1 39 (by decide))⟩ ((hu.2.2 0 (by decide)).trans hc0) ((hs0.mono (by decide)).tr (hu.2.1.mono (by decide)))
          rw [← he] at this
          exact ⟨this, Nat.le_refl _⟩
        | succ c ih =>
          intro p hp u tx vis x4 hu hvi hlen he
          have hp12 : p < 12 := by omega
          have hfp := hf.1 p hp12
          have hm := msk_lt hvi.2.1
          have hpl : ∀ i, pw f i p < A.1 := by
            intro i
            induction i with
            | zero => show p < A.1; omega
            | succ i ih9 => rw [pw_succ]; exact hL.lt ih9
          have ewr : wrL f (12 - p) p vis = if p ∉ vis ∧ f p ≠ p then crt (cyl f p) ++ wrL f (12 - (p + 1)) (p + 1) (vis ++ cyl f p) else wrL f (12 - (p + 1)) (p + 1) vis := by
            rw [show 12 - p = (12 - (p + 1)) + 1 by omega]
            rfl
          iterate 3 refine hV.go rfl ?_
          refine topI (V := V) (show u.1 30 0 1 = nI A.1 by rw [hu.2.2 1 (by decide), hj0 1 (by decide) (by decide)]; exact n4) ?_
          refine hV.go rfl ?_
          refine And.intro (fun hc => ?_) (fun _ => ?_)
          · have hc : nI A.1 ≤ nI p := hc
            rw [nI_leI (by omega) (by omega)] at hc
            omega
          have skip : ∀ x4, ¬ (p ∉ vis ∧ f p ≠ p) → V 167 [some (vR 30), some (vI x), some (vI (nI (msk vis))), some (vI (nI p)), x4] [] u 0 := by
            intro x4 hno
            iterate 2 refine hV.go rfl ?_
            rw [ewr, if_neg hno] at he
            have := ih (p + 1) (by omega) u tx vis x4 hu hvi hlen he
            rw [← nI_inc p] at this
            exact this
          refine valA u tx p _ x4 hu (by omega) ?_
          iterate 6 refine hV.go rfl ?_
          refine topI (V := V) (sbit (by omega) (by omega)) ?_
          refine hV.go rfl ?_
          refine And.intro (fun hc => ?_) (fun hc => ?_)
          · have hb : (msk vis).testBit p = true := b2i_ne.mp hc
            rw [msk_tb, decide_eq_true_iff] at hb
            exact skip _ (fun z => z.1 hb)
          have hin : p ∉ vis := by
            have hb : (msk vis).testBit p = false := b2i_eq.mp (Classical.not_not.mp hc)
            rw [msk_tb, decide_eq_false_iff_not] at hb
            exact hb
          iterate 3 refine hV.go rfl ?_
          refine And.intro (fun hc => ?_) (fun hc => ?_)
          · have hc : nI (f p) = nI p := hc
            rw [nI_eq (by omega) (by omega)] at hc
            exact skip _ (fun z => z.2 hc)
          have hne : f p ≠ p := fun z => hc (show nI (f p) = nI p by rw [z])
          have hvi2 := hvi.add hf hp12 hin
          have hvl := nodup_len hvi2.1 hvi2.2.1
          have hcl : (cyl f p).length = perN f p := by unfold cyl; simp
          rw [List.length_append, hcl] at hvl
          obtain ⟨p1, p2, p3⟩ := perN_spec hf hp12
          have hpos : 1 ≤ perN f p := by unfold perN; omega
          obtain ⟨a, ha⟩ : ∃ a, a = perN f p := ⟨_, rfl⟩
          rw [← ha] at p1 p2 p3 hpos hvl hcl
          have eC : ∀ i, 1 ≤ i → crt ((List.range i).map (fun i => pw f i p)) = 40 :: (num p ++ (((List.range (i - 1)).map (fun j => pw f (j + 1) p)).flatMap (fun q => 32 :: num q) ++ [41])) := by
            intro i hi
            obtain ⟨j, rfl⟩ : ∃ j, i = j + 1 := ⟨i - 1, by omega⟩
            rw [List.range_succ_eq_map, List.map_cons, List.map_map]
            rfl
          have hcrt : (crt (cyl f p)).length ≤ 4 * a := by
            have hpos : 0 < (cyl f p).length := by rw [hcl]; omega
            rw [← hcl]
            cases hcy : cyl f p with
            | nil => rw [hcy] at hpos; exact absurd hpos (by decide)
            | cons a r =>
              have h1 := num_len a
              have h2 := flat_le r
              simp only [crt, List.length_cons, List.length_append, List.length_nil] at h1 h2 ⊢
              omega
          have cyc : ∀ c i : Nat, 1 ≤ i → i + c = a → ∀ v : Wd, TXF w0 v (tx ++ 40 :: (num p ++ ((List.range (i - 1)).map (fun j => pw f (j + 1) p)).flatMap (fun q => 32 :: num q))) → V 105 [some (vR 30), some (vI x), some (vI (nI (msk vis ||| msk ((List.range i).map (fun i => pw f i p))))), some (vI (nI p)), some (vI (nI (pw f i p)))] [] v 0 := by
            intro c
            induction c with
            | zero =>
              intro i hi1 hi v hv
              have hia : i = a := by omega
              subst hia
              have ecy : cyl f p = (List.range i).map (fun i => pw f i p) := by unfold cyl; rw [ha]
              have hlen2 : (tx ++ 40 :: (num p ++ ((List.range (i - 1)).map (fun j => pw f (j + 1) p)).flatMap (fun q => 32 :: num q))).length < 60 := by
                have h1 := num_len p
                have h2 := flat_le ((List.range (i - 1)).map (fun j => pw f (j + 1) p))
                simp only [List.length_append, List.length_cons, List.length_map, List.length_range] at h2 ⊢
                omega
              iterate 3 refine hV.go rfl ?_
              refine And.intro (fun _ => ?_) (fun hc => absurd (show nI (pw f i p) = nI p by rw [p2]) hc)
              iterate 3 refine hV.go rfl ?_
              refine And.intro (callP_r (m_say (c := 41) (po := fun r z => r = none ∧ TXF v z (tx ++ 40 :: (num p ++ ((List.range (i - 1)).map (fun j => pw f (j + 1) p)).flatMap (fun q => 32 :: num q)) ++ [41])) G hv.1 hlen2 (by decide) (fun z y1 => ⟨rfl, y1⟩)) (by decide) (by decide) (fun r z hp => ?_)) trivial
              obtain ⟨rfl, y1⟩ := hp
              iterate 2 refine hV.go rfl ?_
              rw [ewr, if_pos ⟨hin, hne⟩, ← List.append_assoc] at he
              have ez : tx ++ 40 :: (num p ++ ((List.range (i - 1)).map (fun j => pw f (j + 1) p)).flatMap (fun q => 32 :: num q)) ++ [41] = tx ++ crt (cyl f p) := by
                rw [ecy, eC i hpos, List.append_assoc, List.cons_append, List.append_assoc]
              rw [ez] at y1
              have := ih (p + 1) (by omega) z (tx ++ crt (cyl f p)) (vis ++ cyl f p) (some (vI (nI (pw f i p)))) (hv.tr y1) hvi2 (by
                rw [List.length_append, List.length_append, hcl]
                omega) he
              rw [msk_app, ← nI_inc p, ecy] at this
              exact this
            | succ c ih2 =>
              intro i hi1 hi v hv
              have hne2 := p3 i hi1 (by omega)
              have hq := (pw_pm hf i).1 p hp12
              have hlen2 : (tx ++ 40 :: (num p ++ ((List.range (i - 1)).map (fun j => pw f (j + 1) p)).flatMap (fun q => 32 :: num q))).length + 3 ≤ 60 := by
                have h1 := num_len p
                have h2 := flat_le ((List.range (i - 1)).map (fun j => pw f (j + 1) p))
                simp only [List.length_append, List.length_cons, List.length_map, List.length_range] at h2 ⊢
                omega
              iterate 3 refine hV.go rfl ?_
              refine And.intro (fun hc2 => ?_) (fun _ => ?_)
              · have hc2 : nI (pw f i p) = nI p := hc2
                rw [nI_eq (by omega) (by omega)] at hc2
                exact absurd hc2 hne2
              iterate 3 refine hV.go rfl ?_
              refine And.intro (callP_r (m_say (c := 32) (po := fun r z => r = none ∧ TXF v z (tx ++ 40 :: (num p ++ ((List.range (i - 1)).map (fun j => pw f (j + 1) p)).flatMap (fun q => 32 :: num q)) ++ [32])) G hv.1 (by omega) (by decide) (fun z y1 => ⟨rfl, y1⟩)) (by decide) (by decide) (fun r z hp => ?_)) trivial
              obtain ⟨rfl, y1⟩ := hp
              iterate 3 refine hV.go rfl ?_
              refine And.intro (callP_r (m_sayNumber (v := pw f i p) (po := fun r z' => r = none ∧ TXF z z' (tx ++ 40 :: (num p ++ ((List.range (i - 1)).map (fun j => pw f (j + 1) p)).flatMap (fun q => 32 :: num q)) ++ [32] ++ num (pw f i p))) G y1.1 (by rw [List.length_append]; simp only [List.length_cons, List.length_nil]; omega) hq (fun z' t1 => ⟨rfl, t1⟩)) (by decide) (by decide) (fun r z' hp => ?_)) trivial
              obtain ⟨rfl, t1⟩ := hp
              have hz' := (hv.tr y1).tr t1
              iterate 4 refine hV.go rfl ?_
              refine topI (V := V) (shl1 _ hq) ?_
              refine hV.go rfl ?_
              refine topI (V := V) (fa_or _ _) ?_
              refine hV.go rfl ?_
              refine valB z' _ (pw f i p) _ _ hz' (hpl i) ?_
              iterate 2 refine hV.go rfl ?_
              have := ih2 (i + 1) (by omega) (by omega) z' (by
                have e : (List.range (i + 1 - 1)).map (fun j => pw f (j + 1) p) = (List.range (i - 1)).map (fun j => pw f (j + 1) p) ++ [pw f i p] := by
                  rw [show i + 1 - 1 = (i - 1) + 1 by omega, List.range_succ, List.map_append, List.map_singleton, show i - 1 + 1 = i by omega]
                rw [e, List.flatMap_append]
                simpa [List.append_assoc] using hz')
              rw [List.range_succ, List.map_append, msk_app, show msk ([i].map (fun i => pw f i p)) = 2 ^ pw f i p by simp [msk], pw_succ, ← Nat.or_assoc] at this
              exact this
          iterate 3 refine hV.go rfl ?_
          refine And.intro (callP_r (m_say (c := 40) (po := fun r z => r = none ∧ TXF u z (tx ++ [40])) G hu.1 (by omega) (by decide) (fun z y1 => ⟨rfl, y1⟩)) (by decide) (by decide) (fun r z hp => ?_)) trivial
          obtain ⟨rfl, y1⟩ := hp
          iterate 3 refine hV.go rfl ?_
          refine And.intro (callP_r (m_sayNumber (v := p) (po := fun r z' => r = none ∧ TXF z z' (tx ++ [40] ++ num p)) G y1.1 (by simp; omega) hp12 (fun z' t1 => ⟨rfl, t1⟩)) (by decide) (by decide) (fun r z' hp => ?_)) trivial
          obtain ⟨rfl, t1⟩ := hp
          iterate 4 refine hV.go rfl ?_
          refine topI (V := V) (shl1 p hp12) ?_
          refine hV.go rfl ?_
          refine topI (V := V) (fa_or _ _) ?_
          refine hV.go rfl ?_
          have := cyc (a - 1) 1 (Nat.le_refl _) (by omega) z' (by simpa using (hu.tr y1).tr t1)
          have e1 : msk ((List.range 1).map (fun i => pw f i p)) = 2 ^ p := by simp [msk, List.range_succ, pw, idp]
          have e2 : pw f 1 p = f p := rfl
          rw [e1, e2] at this
          exact this
      iterate 4 refine hV.go rfl ?_
      exact loop A.1 0 (by omega) w0 [] [] none ⟨hx0, Sm.rf, fun _ _ => rfl⟩ ⟨List.nodup_nil, (fun v hv => nomatch hv), (fun v hv => nomatch hv)⟩ (Nat.le_refl _) rfl
    refine key _ ⟨?_, fun i c hc => by cases hc⟩ (Sm.wI (k := 30) (Sm.wI (k := 30) Sm.rf (by decide)) (by decide)) (fun j a b => ?_) ?_
    · rw [wI_eq]
      rfl
    · rw [wI_ne (by omega), wI_ne (by omega)]
    · rw [wI_ne (by decide), wI_eq]
      rfl
  iterate 4 refine hV.go rfl ?_
  refine And.intro (fun hc => ?_) (fun hc => ?_)
  · have hc : x < -1 := hc
    exact bad (fun e => by rw [e] at hc; exact absurd hc (by decide)) (Or.inl (Int32.lt_trans hc (by decide)))
  · have hc : ¬ x < -1 := hc
    iterate 3 refine hV.go rfl ?_
    refine topI (V := V) n5 ?_
    refine hV.go rfl ?_
    refine And.intro (fun hc2 => ?_) (fun hc2 => ?_)
    · have hc2 : x < nI A.2.1.length := hc2
      by_cases hneg : x < 0
      · exact main A.2.2.1 (Or.inl ⟨m1_of hc hneg, rfl⟩)
      · rcases bnd x (n := A.2.1.length) (by omega) with ⟨i, hi, rfl⟩ | hb
        · exact main A.2.1[i] (Or.inr ⟨i, List.getElem?_eq_getElem hi, rfl⟩)
        · rcases hb with hb | hb
          · exact absurd hb hneg
          · exact absurd (Int32.lt_of_lt_of_le hc2 hb) Int32.lt_irrefl
    · have hc2 : ¬ x < nI A.2.1.length := hc2
      refine bad (fun e => hc2 ?_) (Or.inr (Int32.not_lt.mp hc2))
      rw [e]
      exact Int32.lt_of_lt_of_le (show (-1 : Int32) < nI 0 by decide) (nI_le (by omega) (by omega))
end
