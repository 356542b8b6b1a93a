def nmN (ns : List (Nat × Nat)) (i : Nat) : Nat := (ns.getD i (0, 0)).1
def hdN (ns : List (Nat × Nat)) (i : Nat) : Nat := (ns.getD i (0, 0)).2
def nxt (ns : List (Nat × Nat)) (i : Nat) : Nat := if i + 1 = ns.length ∨ hdN ns (i + 1) ≠ hdN ns i then hdN ns i else i + 1
/-- the row of the first i numbers -/
def pR (ns : List (Nat × Nat)) : Nat → (Nat → Nat)
  | 0 => idp
  | i + 1 => fun p => if p = nmN ns i then nmN ns (nxt ns i) else pR ns i p
theorem nm_get {ns : List (Nat × Nat)} {i : Nat} (h : i < ns.length) : ns[i]? = some (nmN ns i, hdN ns i) := by
  unfold nmN hdN
  rw [List.getD_eq_getElem?_getD, List.getElem?_eq_getElem h]
  rfl
section
variable {l : Launch} {E : En}
theorem c_readBelow {w : Wd} {q : RQ} {n : Nat} (G : GC l E) (hq : RqW w q) (hB : RqB q) (hl : q.2.1.length ≤ 48) (hn : n ≤ 12) : Ctr l E 1 0 mX3_readBelow [vR 1, vI (nI n)] w (fun r u => r = some (vI (b2i (decide (∀ x ∈ q.2.1, x.1 < n)))) ∧ u = w) noX := by
  refine Ctr.of (tw := []) G.1 G.2 oX3_ok pgX3_readBelow rfl (by decide) rfl rfl (Nat.le_of_ble_eq_true rfl) ?_
  intro V hV
  obtain ⟨q1, q2, q3⟩ := id hq
  have loop : ∀ c i : Nat, i + c = q.2.1.length → (∀ j x, j < i → q.2.1[j]? = some x → x.1 < n) → V 2 [some (vR 1), some (vI (nI n)), some (vI (nI i))] [] w 0 := by
    intro c
    induction c with
    | zero =>
      intro i hi hall
      iterate 3 refine hV.go rfl ?_
      refine topI (V := V) q1 ?_
      refine hV.go rfl ?_
      refine And.intro (fun hc => ?_) (fun hc => ?_)
      · repeat refine hV.go rfl ?_
        refine ⟨Or.inr rfl, ⟨?_, rfl⟩, Nat.le_refl _⟩
        rw [decide_eq_true (fun x hx => by
          obtain ⟨j, hj⟩ := List.getElem?_of_mem hx
          exact hall j x (by have := (List.getElem?_eq_some_iff.mp hj).1; omega) hj)]
        rfl
      · exact absurd (show nI q.2.1.length ≤ nI i from nI_le (by omega) (by omega)) hc
    | succ c ih =>
      intro i hi hall
      have hget := nm_get (ns := q.2.1) (i := i) (by omega)
      have hb := (hB.1 i _ hget).1
      iterate 3 refine hV.go rfl ?_
      refine topI (V := V) q1 ?_
      refine hV.go rfl ?_
      refine And.intro (fun hc => ?_) (fun hc => ?_)
      · have hc : nI q.2.1.length ≤ nI i := hc
        rw [nI_leI (by omega) (by omega)] at hc
        omega
      · repeat refine hV.go rfl ?_
        refine Exists.intro i (And.intro rfl (And.intro (show i < 48 by omega) ?_))
        refine topI (V := V) (q2 i _ hget).1 ?_
        iterate 2 refine hV.go rfl ?_
        refine And.intro (fun hc => ?_) (fun hc => ?_)
        · have hc : nI (nmN q.2.1 i) < nI n := hc
          rw [nI_ltI (by omega) (by omega)] at hc
          iterate 2 refine hV.go rfl ?_
          have := ih (i + 1) (by omega) (fun j x hj hx => by
            by_cases e : j = i
            · subst e
              rw [hget] at hx
              cases hx
              exact hc
            · exact hall j x (by omega) hx)
          rw [← nI_inc] at this
          exact this
        · have hc : ¬ nI (nmN q.2.1 i) < nI n := hc
          rw [nI_ltI (by omega) (by omega)] at hc
          repeat refine hV.go rfl ?_
          refine ⟨Or.inl rfl, ⟨?_, rfl⟩, Nat.le_refl _⟩
          rw [decide_eq_false (fun z => hc (z _ (List.mem_of_getElem? hget)))]
          rfl
  iterate 2 refine hV.go rfl ?_
  exact loop q.2.1.length 0 (by omega) (fun j x hj => by omega)
/-- none is there twice -/
def ndN (ns : List (Nat × Nat)) : Prop := ∀ i j, i < j → j < ns.length → nmN ns i ≠ nmN ns j
theorem c_readTwice {w : Wd} {q : RQ} {po : Option AV → Wd → Prop} (G : GC l E) (hq : RqW w q) (hB : RqB q) (hl : q.2.1.length ≤ 48) (h1 : ¬ ndN q.2.1 → po (some (vI 1)) w) (h2 : ndN q.2.1 → po (some (vI 0)) w) : Ctr l E 1 0 mX3_readTwice [vR 1] w po noX := by
  refine Ctr.of (tw := []) G.1 G.2 oX3_ok pgX3_readTwice rfl (by decide) rfl rfl (Nat.le_of_ble_eq_true rfl) ?_
  intro V hV
  obtain ⟨q1, q2, q3⟩ := id hq
  have outer : ∀ c i : Nat, i + c = q.2.1.length → (∀ a b, a < b → b < i → nmN q.2.1 a ≠ nmN q.2.1 b) → ∀ x2, V 2 [some (vR 1), some (vI (nI i)), x2] [] w 0 := by
    intro c
    induction c with
    | zero =>
      intro i hi hall x2
      iterate 3 refine hV.go rfl ?_
      refine topI (V := V) q1 ?_
      refine hV.go rfl ?_
      refine And.intro (fun hc => ?_) (fun hc => ?_)
      · repeat refine hV.go rfl ?_
        exact ⟨Or.inl rfl, h2 (fun a b hab hb => hall a b hab (by omega)), Nat.le_refl _⟩
      · exact absurd (show nI q.2.1.length ≤ nI i from nI_le (by omega) (by omega)) hc
    | succ c ih =>
      intro i hi hall x2
      have hget := nm_get (ns := q.2.1) (i := i) (by omega)
      have hb := (hB.1 i _ hget).1
      have inner : ∀ c2 k : Nat, k + c2 = i → (∀ a, a < k → nmN q.2.1 a ≠ nmN q.2.1 i) → V 12 [some (vR 1), some (vI (nI i)), some (vI (nI k))] [] w 0 := by
        intro c2
        induction c2 with
        | zero =>
          intro k hk hno
          iterate 3 refine hV.go rfl ?_
          refine And.intro (fun hc => ?_) (fun hc => ?_)
          · iterate 2 refine hV.go rfl ?_
            have := ih (i + 1) (by omega) (fun a b hab hb => by
              by_cases e : b = i
              · subst e
                exact hno a (by omega)
              · exact hall a b hab (by omega)) (some (vI (nI k)))
            rw [← nI_inc] at this
            exact this
          · exact absurd (show nI i ≤ nI k from nI_le (by omega) (by omega)) hc
        | succ c2 ih2 =>
          intro k hk hno
          have hgetk := nm_get (ns := q.2.1) (i := k) (by omega)
          have hbk := (hB.1 k _ hgetk).1
          iterate 3 refine hV.go rfl ?_
          refine And.intro (fun hc => ?_) (fun hc => ?_)
          · have hc : nI i ≤ nI k := hc
            rw [nI_leI (by omega) (by omega)] at hc
            omega
          · repeat refine hV.go rfl ?_
            refine Exists.intro i (And.intro rfl (And.intro (show i < 48 by omega) ?_))
            refine topI (V := V) (q2 i _ hget).1 ?_
            repeat refine hV.go rfl ?_
            refine Exists.intro k (And.intro rfl (And.intro (show k < 48 by omega) ?_))
            refine topI (V := V) (q2 k _ hgetk).1 ?_
            refine hV.go rfl ?_
            refine And.intro (fun hc => ?_) (fun hc => ?_)
            · have hc : ¬ nmN q.2.1 i = nmN q.2.1 k := fun z => hc (show nI (nmN q.2.1 i) = nI (nmN q.2.1 k) by rw [z])
              iterate 2 refine hV.go rfl ?_
              have := ih2 (k + 1) (by omega) (fun a ha => by
                by_cases e : a = k
                · subst e
                  exact fun z => hc z.symm
                · exact hno a (by omega))
              rw [← nI_inc] at this
              exact this
            · have hc : nI (nmN q.2.1 i) = nI (nmN q.2.1 k) := Classical.not_not.mp hc
              rw [nI_eq (by omega) (by omega)] at hc
              repeat refine hV.go rfl ?_
              exact ⟨Or.inr rfl, h1 (fun z => z k i (by omega) (by omega) hc.symm), Nat.le_refl _⟩
      iterate 3 refine hV.go rfl ?_
      refine topI (V := V) q1 ?_
      refine hV.go rfl ?_
      refine And.intro (fun hc => ?_) (fun hc => ?_)
      · have hc : nI q.2.1.length ≤ nI i := hc
        rw [nI_leI (by omega) (by omega)] at hc
        omega
      · iterate 2 refine hV.go rfl ?_
        exact inner i 0 (by omega) (fun a ha => by omega)
  iterate 2 refine hV.go rfl ?_
  exact outer q.2.1.length 0 (by omega) (fun a b _ hb => by omega) none
theorem pR_lt {ns : List (Nat × Nat)} (h : ∀ i, i < ns.length → nmN ns i < 12) (hh : ∀ i, i < ns.length → hdN ns i ≤ i) : ∀ i, i ≤ ns.length → ∀ p, p < 12 → pR ns i p < 12
  | 0, _, p, hp => hp
  | i + 1, hi, p, hp => by
    show (if p = nmN ns i then nmN ns (nxt ns i) else pR ns i p) < 12
    split
    · have := hh i (by omega)
      unfold nxt
      split
      · exact h _ (by omega)
      · rename_i hc
        exact h _ (by omega)
    · exact pR_lt h hh i (by omega) p hp
theorem c_readRow {w : Wd} {q : RQ} (G : GC l E) (hq : RqW w q) (hB : RqB q) (hl : q.2.1.length ≤ 48) (h12 : ∀ x ∈ q.2.1, x.1 < 12) : Ctr l E 2 0 mX3_readRow [vR 1] w (fun r u => r = some (vJ (rw (pR q.2.1 q.2.1.length))) ∧ u = w) noX := by
  refine Ctr.of (tw := []) G.1 G.2 oX3_ok pgX3_readRow rfl (by decide) rfl rfl (Nat.le_of_ble_eq_true rfl) ?_
  intro V hV
  obtain ⟨q1, q2, q3⟩ := id hq
  have hnm : ∀ i, i < q.2.1.length → nmN q.2.1 i < 12 := fun i hi => h12 _ (List.mem_of_getElem? (nm_get hi))
  have hhd : ∀ i, i < q.2.1.length → hdN q.2.1 i ≤ i := fun i hi => (hB.1 i _ (nm_get hi)).2
  have h6 : ∀ i, i ≤ q.2.1.length → lt16 (pR q.2.1 i) := fun i hi p hp => Nat.lt_trans (pR_lt hnm hhd i hi p hp) (by decide)
  have loop : ∀ c i : Nat, i + c = q.2.1.length → ∀ x4, V 6 [some (vR 1), some (vJ (rw (pR q.2.1 i))), none, some (vI (nI i)), x4] [] w 0 := by
    intro c
    induction c with
    | zero =>
      intro i hi x4
      have hi : i = q.2.1.length := by omega
      subst hi
      iterate 3 refine hV.go rfl ?_
      refine topI (V := V) q1 ?_
      refine hV.go rfl ?_
      refine And.intro (fun hc => ?_) (fun hc => ?_)
      · repeat refine hV.go rfl ?_
        exact ⟨⟨rfl, rfl⟩, Nat.le_refl _⟩
      · exact absurd (show nI q.2.1.length ≤ nI q.2.1.length from nI_le (Nat.le_refl _) (by omega)) hc
    | succ c ih =>
      intro i hi x4
      have hil : i < q.2.1.length := by omega
      have hget := nm_get (ns := q.2.1) hil
      have hn := hnm i hil
      have hh := hhd i hil
      have put : ∀ b : Bool, (b = true ↔ i + 1 = q.2.1.length ∨ hdN q.2.1 (i + 1) ≠ hdN q.2.1 i) → V 46 [some (vR 1), some (vJ (rw (pR q.2.1 i))), none, some (vI (nI i)), x4] [vI (b2i b)] w 0 := by
        intro b hb
        have last : ∀ j, j = nxt q.2.1 i → j < q.2.1.length → V 76 [some (vR 1), some (vJ (rw (pR q.2.1 i))), none, some (vI (nI i)), some (vI (b2i b))] [vI (nI j), vR 8, vI (nI (nmN q.2.1 i)), vJ (rw (pR q.2.1 i))] w 0 := by
          intro j hj hjl
          refine hV.go rfl ?_
          refine Exists.intro j (And.intro rfl (And.intro (show j < 48 by omega) ?_))
          refine topI (V := V) (q2 j _ (nm_get hjl)).1 ?_
          refine hV.go rfl ?_
          refine And.intro (callP_v (c_put G (h6 i (by omega)) hn (Nat.lt_trans (hnm j hjl) (by decide)) w) (by decide) (by decide) ?_) trivial
          iterate 3 refine hV.go rfl ?_
          have := ih (i + 1) (by omega) (some (vI (b2i b)))
          rw [← nI_inc, show pR q.2.1 (i + 1) = fun p => if p = nmN q.2.1 i then nmN q.2.1 j else pR q.2.1 i p by rw [hj]; rfl] at this
          exact this
        iterate 6 refine hV.go rfl ?_
        refine Exists.intro i (And.intro rfl (And.intro (show i < 48 by omega) ?_))
        refine topI (V := V) (q2 i _ hget).1 ?_
        iterate 4 refine hV.go rfl ?_
        refine And.intro (fun hc => ?_) (fun hc => ?_)
        · have hbf := b2i_eq.mp hc
          have hno : ¬ (i + 1 = q.2.1.length ∨ hdN q.2.1 (i + 1) ≠ hdN q.2.1 i) := fun z => by rw [hb.mpr z] at hbf; cases hbf
          iterate 3 refine hV.go rfl ?_
          refine topI (V := V) (nI_1 i) ?_
          exact last (i + 1) (by unfold nxt; rw [if_neg hno]) (by omega)
        · have hbt := b2i_ne.mp hc
          repeat refine hV.go rfl ?_
          refine Exists.intro i (And.intro rfl (And.intro (show i < 48 by omega) ?_))
          refine topI (V := V) (q2 i _ hget).2 ?_
          refine hV.go rfl ?_
          exact last (hdN q.2.1 i) (by unfold nxt; rw [if_pos (hb.mp hbt)]) (by omega)
      iterate 3 refine hV.go rfl ?_
      refine topI (V := V) q1 ?_
      refine hV.go rfl ?_
      refine And.intro (fun hc => ?_) (fun hc => ?_)
      · have hc : nI q.2.1.length ≤ nI i := hc
        rw [nI_leI (by omega) (by omega)] at hc
        omega
      · iterate 3 refine hV.go rfl ?_
        refine topI (V := V) (nI_1 i) ?_
        iterate 2 refine hV.go rfl ?_
        refine topI (V := V) q1 ?_
        refine hV.go rfl ?_
        refine And.intro (fun hc => ?_) (fun hc => ?_)
        · have hc : nI (i + 1) = nI q.2.1.length := hc
          rw [nI_eq (by omega) (by omega)] at hc
          iterate 2 refine hV.go rfl ?_
          exact put true ⟨fun _ => Or.inl hc, fun _ => rfl⟩
        · have hc : ¬ i + 1 = q.2.1.length := fun z => hc (show nI (i + 1) = nI q.2.1.length by rw [z])
          have hget1 := nm_get (ns := q.2.1) (i := i + 1) (by omega)
          have hh1 := hhd (i + 1) (by omega)
          iterate 5 refine hV.go rfl ?_
          refine topI (V := V) (nI_1 i) ?_
          refine hV.go rfl ?_
          refine Exists.intro (i + 1) (And.intro rfl (And.intro (show i + 1 < 48 by omega) ?_))
          refine topI (V := V) (q2 (i + 1) _ hget1).2 ?_
          repeat refine hV.go rfl ?_
          refine Exists.intro i (And.intro rfl (And.intro (show i < 48 by omega) ?_))
          refine topI (V := V) (q2 i _ hget).2 ?_
          refine hV.go rfl ?_
          refine And.intro (fun hc2 => ?_) (fun hc2 => ?_)
          · have hc2 : nI (hdN q.2.1 (i + 1)) = nI (hdN q.2.1 i) := hc2
            rw [nI_eq (by omega) (by omega)] at hc2
            refine hV.go rfl ?_
            exact put false ⟨(fun z => by cases z), fun z => (z.elim hc (fun y => y hc2)).elim⟩
          · have hc2 : ¬ hdN q.2.1 (i + 1) = hdN q.2.1 i := fun z => hc2 (show nI (hdN q.2.1 (i + 1)) = nI (hdN q.2.1 i) by rw [z])
            iterate 2 refine hV.go rfl ?_
            exact put true ⟨fun _ => Or.inr hc2, fun _ => rfl⟩
  refine hV.go rfl ?_
  refine topJ (V := V) rw_id ?_
  iterate 3 refine hV.go rfl ?_
  exact loop q.2.1.length 0 (by omega) none
end
