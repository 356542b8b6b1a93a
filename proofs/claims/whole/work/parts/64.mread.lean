/-! the reference reads cycles -/
theorem sub48 : ∀ c, c < 128 → 48 ≤ c → nI c - nI 48 = nI (c - 48) := by decide +kernel
theorem sub48b : ∀ c, c < 256 → 48 ≤ c → nI c - nI 48 = nI (c - 48) := by decide +kernel
theorem rd_out {q : RQ} {c : Nat} (h : q.1 = 1) (h1 : c ≠ 32) (h2 : c ≠ 40) : (rdS q c).1 = 0 := by
  unfold rdS rdD
  by_cases hd : 48 ≤ c ∧ c ≤ 57
  · rw [if_pos hd, if_neg (by omega), if_neg (by omega)]
  · rw [if_neg hd, if_neg h1, if_neg (fun z => h2 z.1), if_neg (by omega)]
theorem rd_open {q : RQ} (h : q.1 = 1) : rdS q 40 = (2, q.2.1, q.2.1.length) := by
  unfold rdS
  rw [if_neg (by omega), if_neg (by omega), if_pos ⟨rfl, h⟩]
theorem rd_shut {q : RQ} (h : q.1 = 3 ∨ q.1 = 4) : rdS q 41 = (1, q.2) := by
  unfold rdS
  rw [if_neg (by omega), if_neg (by omega), if_neg (by omega), if_pos ⟨rfl, h⟩]
def FP (n : Nat) (ns : List (Nat × Nat)) (hd code : Nat) (fi pr : Int32) : Prop := (pr = -1 ∨ ∃ p, p < n ∧ pr = nI p) ∧ (code = 0 → (hd < ns.length ∧ fi = nI (nmN ns hd) ∧ pr = nI (nmN ns (ns.length - 1))) ∨ (hd = ns.length ∧ pr = -1))
section
variable {l : Launch} {E : En}
theorem m_readCycles {w : Wd} {tx : List Nat} {n : Nat} {po : Option AV → Wd → Prop} (G : GM l E) (hx : MX w tx) (h1 : w.1 30 0 1 = nI n) (hn : n ≤ 12) (hpo1 : (rdA tx).1 ≠ 1 → ∀ u, Sm [36] w u → po (some (vI 1)) u) (hpo2 : ∀ u code, (rdA tx).1 = 1 → KD n (rdA tx).2.1 code → (code = 0 → ∀ p, p < 12 → u.1 36 0 p = nI (pR (rdA tx).2.1 (rdA tx).2.1.length p)) → Sm [36] w u → po (some (vI (nI code))) u) : Ctr l E 2 0 mX5_readCycles [vR 30] w po noX := by
  refine Ctr.of (tw := []) G.1 G.2 oX5_ok pgX5_readCycles rfl (by decide) rfl rfl (Nat.le_of_ble_eq_true rfl) ?_
  intro V hV
  obtain ⟨x1, x2, x3⟩ := id hx
  have mx : ∀ u, Sm [36] w u → MX u tx := fun u hs => hx.cg (by rw [(hs 30 (by decide)).1]) (hs 33 (by decide)).1
  have k1 : ∀ u, Sm [36] w u → u.1 30 0 1 = nI n := fun u hs => by rw [(hs 30 (by decide)).1]; exact h1
  have k5 : ∀ u, Sm [36] w u → u.1 30 0 5 = nI tx.length := fun u hs => (mx u hs).1
  have ch : ∀ u i c, Sm [36] w u → tx[i]? = some c → u.1 33 0 i = nI c ∧ c < 128 := fun u i c hs h => (mx u hs).2.2 i c h
  have il : ∀ {i c}, tx[i]? = some c → i < tx.length := fun h => (List.getElem?_eq_some_iff.mp h).1
  have tk : rdA (tx.take tx.length) = rdA tx := by rw [List.take_length]
  -- after skipping
  have skp : ∀ u i, Sm [36] w u → i ≤ tx.length → Ctr l E 1 0 mX5_skip [vR 30, vI (nI i)] u (fun v z => z = u ∧ ∃ j, v = some (vI (nI j)) ∧ i ≤ j ∧ j ≤ tx.length ∧ tx[j]? ≠ some 32 ∧ rdA (tx.take j) = if j = i then rdA (tx.take i) else (if (rdA (tx.take i)).1 = 3 then 4 else (rdA (tx.take i)).1, (rdA (tx.take i)).2)) noX := by
    intro u i hs hi
    refine m_skip G (mx u hs) hi (fun j hij hj hall hne => ⟨rfl, j, rfl, hij, hj, hne, ?_⟩)
    have := rd_sp (tx := tx) (i := i) (j - i) (fun p a b => hall p a (by omega))
    rw [show i + (j - i) = j by omega] at this
    rw [this]
    by_cases e : j = i
    · rw [if_pos e, if_pos (by omega)]
    · rw [if_neg e, if_neg (by omega)]
  have outer : ∀ c i : Nat, tx.length - i < c → i ≤ tx.length → tx[i]? ≠ some 32 → ∀ (u : Wd) (code k : Nat) (x4 x5 x6 x7 : Option AV), Sm [36] w u → (rdA (tx.take i)).1 = 1 → KD n (rdA (tx.take i)).2.1 code → MK n (rdA (tx.take i)).2.1 k → (code = 0 → ∀ p, p < 12 → u.1 36 0 p = nI (pR (rdA (tx.take i)).2.1 (rdA (tx.take i)).2.1.length p)) → V 31 [some (vR 30), some (vI (nI code)), some (vI (nI k)), some (vI (nI i)), x4, x5, x6, x7] [] u 0 := by
    intro c
    induction c with
    | zero =>
      intro i hc
      omega
    | succ c ihc =>
      intro i hc hi hni u0 code k x4 x5 x6 x7 hs hq1 hkd hmk hwk
      iterate 3 refine hV.go rfl ?_
      refine topI (V := V) (k5 u0 hs) ?_
      refine hV.go rfl ?_
      refine And.intro (fun hc => ?_) (fun hc => ?_)
      · have hc : nI tx.length ≤ nI i := hc
        rw [nI_leI (by omega) (by omega)] at hc
        have e : i = tx.length := by omega
        subst e
        rw [tk] at hq1 hkd hwk
        repeat refine hV.go rfl ?_
        exact ⟨hpo2 u0 code hq1 hkd hwk hs, Nat.le_refl _⟩
      have hc : ¬ nI tx.length ≤ nI i := hc
      rw [nI_leI (by omega) (by omega)] at hc
      have hg : tx[i]? = some tx[i] := List.getElem?_eq_getElem (by omega)
      generalize htc : tx[i] = cc at hg
      obtain ⟨hc1, hc2⟩ := ch u0 i cc hs hg
      iterate 4 refine hV.go rfl ?_
      refine Exists.intro i (And.intro rfl (And.intro (show i < 60 by omega) ?_))
      refine topI (V := V) hc1 ?_
      iterate 2 refine hV.go rfl ?_
      refine And.intro (fun h40 => ?_) (fun h40 => ?_)
      rotate_left
      · have h40 : ¬ nI cc = nI 40 := h40
        rw [nI_eq (by omega) (by decide)] at h40
        repeat refine hV.go rfl ?_
        refine ⟨hpo1 (rd_bad (j := i + 1) ?_) u0 hs, Nat.le_refl _⟩
        rw [rd_take tx hg]
        exact rd_out hq1 (fun e => hni (by rw [hg, e])) h40
      have h40 : nI cc = nI 40 := h40
      rw [nI_eq (by omega) (by decide)] at h40
      subst h40
      have hq2 : rdA (tx.take (i + 1)) = (2, (rdA (tx.take i)).2.1, (rdA (tx.take i)).2.1.length) := by
        rw [rd_take tx hg]
        exact rd_open hq1
      -- inside a cycle
      have inn : ∀ d j : Nat, tx.length - j < d → i < j → j ≤ tx.length → tx[j]? ≠ some 32 → ∀ (u : Wd) (code k : Nat) (fi pr : Int32) (x7 : Option AV), Sm [36] w u → ((rdA (tx.take j)).1 = 2 ∨ ((rdA (tx.take j)).1 = 4 ∧ tx[j]? ≠ some 41) ∨ ((rdA (tx.take j)).1 = 3 ∧ ¬ isD tx j ∧ tx[j]? ≠ some 41)) → KD n (rdA (tx.take j)).2.1 code → MK n (rdA (tx.take j)).2.1 k → FP n (rdA (tx.take j)).2.1 (rdA (tx.take j)).2.2 code fi pr → (code = 0 → ∀ p, p < 12 → u.1 36 0 p = nI (opR (rdA (tx.take j)).2.1 (rdA (tx.take j)).2.2 p)) → V 69 [some (vR 30), some (vI (nI code)), some (vI (nI k)), some (vI (nI j)), some (vI fi), some (vI pr), some (vI 1), x7] [] u 0 := by
        intro d
        induction d with
        | zero =>
          intro j hc
          omega
        | succ d ihd =>
          intro j hjd hij hj hnj u code k fi pr x7 hs hst hkd hmk hfp hwk
          have hst1 : (rdA (tx.take j)).1 ≠ 1 := by omega
          iterate 2 refine hV.go rfl ?_
          refine And.intro (fun hc => absurd (show (1 : Int32) = 0 from hc) (by decide)) (fun _ => ?_)
          iterate 3 refine hV.go rfl ?_
          refine And.intro (callP_v (m_isDigit (i := j) G (mx u hs) (by omega)) (by decide) (by decide) ?_) trivial
          refine hV.go rfl ?_
          refine And.intro (fun hdg => ?_) (fun hdg => ?_)
          rotate_left
          · have hdg : ¬ isD tx j := cd_f.mp (b2i_eq.mp (Classical.not_not.mp hdg))
            repeat refine hV.go rfl ?_
            refine ⟨hpo1 ?_ u hs, Nat.le_refl _⟩
            by_cases hje : j = tx.length
            · rw [← tk, ← hje]
              exact hst1
            · have hgj : tx[j]? = some tx[j] := List.getElem?_eq_getElem (by omega)
              refine rd_bad (j := j + 1) ?_
              rw [rd_take tx hgj]
              refine rd_non (fun z => hdg ⟨_, hgj, z⟩) (fun e => hnj (by rw [hgj, e])) hst1 ?_
              rcases hst with h | ⟨-, h⟩ | ⟨-, -, h⟩
              · exact Or.inr (by omega)
              · exact Or.inl (fun e => h (by rw [hgj, e]))
              · exact Or.inl (fun e => h (by rw [hgj, e]))
          have hdg : isD tx j := cd_t.mp (b2i_ne.mp hdg)
          have hst2 : (rdA (tx.take j)).1 = 2 ∨ (rdA (tx.take j)).1 = 4 := by
            rcases hst with h | h | h
            · exact Or.inl h
            · exact Or.inr h.1
            · exact (h.2.1 hdg).elim
          obtain ⟨c1, hg1, hc48, hc57⟩ := id hdg
          have hjl := il hg1
          have hc1 := ch u j c1 hs hg1
          have hqH := rdA_H (tx.take j)
          have hqB := rdA_B (tx.take j)
          generalize hqq : rdA (tx.take j) = q at hst hkd hmk hfp hwk hst1 hst2 hqH hqB
          have hopen : ∀ a, q.2.2 ≤ a → a < q.2.1.length → hdN q.2.1 a = q.2.2 := by
            rcases hst2 with h | h
            · intro a h1 h2
              have := hqH.2.1 h
              omega
            · exact hqH.2.2 (Or.inr h)
          have e1 : rdA (tx.take (j + 1)) = (3, q.2.1 ++ [(c1 - 48, q.2.2)], q.2.2) := by
            rw [rd_take tx hg1, hqq]
            exact rd_dig ⟨hc48, hc57⟩ hst2
          -- behind the number
          have behind : ∀ (j' v : Nat) (u : Wd) (code k : Nat) (fi pr : Int32), j < j' → j' ≤ tx.length → Sm [36] w u → rdA (tx.take j') = (3, q.2.1 ++ [(v, q.2.2)], q.2.2) → ¬ isD tx j' → KD n (q.2.1 ++ [(v, q.2.2)]) code → MK n (q.2.1 ++ [(v, q.2.2)]) k → ((pr = -1 ∨ ∃ p, p < n ∧ pr = nI p) ∧ (code = 0 → fi = nI (nmN (q.2.1 ++ [(v, q.2.2)]) q.2.2) ∧ pr = nI v)) → (code = 0 → ∀ p, p < 12 → u.1 36 0 p = nI (opR (q.2.1 ++ [(v, q.2.2)]) q.2.2 p)) → V 220 [some (vR 30), some (vI (nI code)), some (vI (nI k)), some (vI (nI j')), some (vI fi), some (vI pr), some (vI 1), some (vI (nI v))] [] u 0 := by
            intro j' v u code k fi pr hjj hj' hs hq' hnd hkd hmk hfp hwk
            have hB' := rdA_B (tx.take j')
            have hH' := rdA_H (tx.take j')
            rw [hq'] at hB' hH'
            have hlt : q.2.2 < (q.2.1 ++ [(v, q.2.2)]).length := by
              have := hqB.2.1
              rw [List.length_append, List.length_singleton]
              omega
            have hlast : nmN (q.2.1 ++ [(v, q.2.2)]) ((q.2.1 ++ [(v, q.2.2)]).length - 1) = v := by
              rw [List.length_append, List.length_singleton, Nat.add_sub_cancel, nmN_r]
            iterate 3 refine hV.go rfl ?_
            refine And.intro (callP_r (skp u j' hs hj') (by decide) (by decide) (fun r z hp => ?_)) trivial
            obtain ⟨rfl, m, rfl, hm1, hm2, hm3, hm4⟩ := hp
            have hm5 : (rdA (tx.take m)).2 = (q.2.1 ++ [(v, q.2.2)], q.2.2) ∧ ((rdA (tx.take m)).1 = 4 ∨ ((rdA (tx.take m)).1 = 3 ∧ ¬ isD tx m)) := by
              rw [hm4, hq']
              by_cases e : m = j'
              · rw [if_pos e, e]
                exact ⟨rfl, Or.inr ⟨rfl, hnd⟩⟩
              · rw [if_neg e]
                exact ⟨rfl, Or.inl rfl⟩
            obtain ⟨hm6, hm7⟩ := hm5
            iterate 3 refine hV.go rfl ?_
            refine hV.go rfl ?_
            refine topI (V := V) (k5 z hs) ?_
            refine hV.go rfl ?_
            refine And.intro (fun hc => ?_) (fun hc => ?_)
            rotate_left
            · have hc : ¬ nI m < nI tx.length := hc
              rw [nI_ltI (by omega) (by omega)] at hc
              repeat refine hV.go rfl ?_
              refine ⟨hpo1 ?_ z hs, Nat.le_refl _⟩
              rw [← tk, show tx.length = m by omega]
              omega
            have hc : nI m < nI tx.length := hc
            rw [nI_ltI (by omega) (by omega)] at hc
            have hgm : tx[m]? = some tx[m] := List.getElem?_eq_getElem hc
            generalize htm : tx[m] = cm at hgm
            have hcm := ch z m cm hs hgm
            iterate 4 refine hV.go rfl ?_
            refine Exists.intro m (And.intro rfl (And.intro (show m < 60 by omega) ?_))
            refine topI (V := V) hcm.1 ?_
            iterate 2 refine hV.go rfl ?_
            refine And.intro (fun h41 => ?_) (fun h41 => ?_)
            · have h41 : nI cm = nI 41 := h41
              rw [nI_eq (by omega) (by decide)] at h41
              subst h41
              have hq3 : rdA (tx.take (m + 1)) = (1, q.2.1 ++ [(v, q.2.2)], q.2.2) := by
                rw [rd_take tx hgm, rd_shut (by omega), hm6]
              have shut : ∀ y, Sm [36] w y → (code = 0 → ∀ p, p < 12 → y.1 36 0 p = nI (pR (q.2.1 ++ [(v, q.2.2)]) (q.2.1 ++ [(v, q.2.2)]).length p)) → V 271 [some (vR 30), some (vI (nI code)), some (vI (nI k)), some (vI (nI m)), some (vI fi), some (vI pr), some (vI 0), some (vI (nI v))] [] y 0 := by
                intro y hy hwy
                iterate 4 refine hV.go rfl ?_
                refine topI (V := V) (nI_1 m) ?_
                refine hV.go rfl ?_
                refine And.intro (callP_r (skp y (m + 1) hy (by omega)) (by decide) (by decide) (fun r z2 hp => ?_)) trivial
                obtain ⟨rfl, m2, rfl, b1, b2, b3, b4⟩ := hp
                have b5 : (rdA (tx.take m2)).1 = 1 ∧ (rdA (tx.take m2)).2.1 = q.2.1 ++ [(v, q.2.2)] := by
                  rw [b4, hq3]
                  by_cases e : m2 = m + 1
                  · rw [if_pos e]
                    exact ⟨rfl, rfl⟩
                  · rw [if_neg e]
                    exact ⟨rfl, rfl⟩
                iterate 2 refine hV.go rfl ?_
                refine ihc m2 (by omega) b2 b3 z2 code k _ _ _ _ hy b5.1 (by rw [b5.2]; exact hkd) (by rw [b5.2]; exact hmk) (by rw [b5.2]; exact hwy)
              iterate 5 refine hV.go rfl ?_
              refine And.intro (fun _ => ?_) (fun hc => absurd rfl hc)
              iterate 2 refine hV.go rfl ?_
              refine And.intro (fun hlt0 => ?_) (fun hge => ?_)
              · refine shut z hs (fun h0 => ?_)
                have := (hfp.2 h0).2
                rw [this] at hlt0
                exact absurd (show nI v < 0 from hlt0) (nI_pos (by
                  have := hkd
                  rcases this with ⟨rfl, -⟩ | ⟨rfl, -⟩ | ⟨-, h, -⟩
                  · cases h0
                  · cases h0
                  · have := (all_app.mp h).2
                    omega))
              · rcases hfp.1 with rfl | ⟨p, hp, rfl⟩
                · exact absurd (show (-1 : Int32) < 0 by decide) hge
                · iterate 5 refine hV.go rfl ?_
                  refine Exists.intro p (And.intro rfl (And.intro (show p < 12 by omega) ?_))
                  refine shut _ (Sm.wI (k := 36) hs (by decide)) (fun h0 a ha => ?_)
                  obtain ⟨f1, f2⟩ := hfp.2 h0
                  have hall : (∀ x ∈ q.2.1 ++ [(v, q.2.2)], x.1 < n) ∧ ndN (q.2.1 ++ [(v, q.2.2)]) := by
                    rcases hkd with ⟨rfl, -⟩ | ⟨rfl, -⟩ | ⟨-, h⟩
                    · cases h0
                    · cases h0
                    · exact h
                  have hvn := (all_app.mp hall.1).2
                  have ep : p = v := (nI_eq (by omega) (by omega)).mp f2
                  have hop : hdN (q.2.1 ++ [(v, q.2.2)]) ((q.2.1 ++ [(v, q.2.2)]).length - 1) = q.2.2 := hH'.2.2 (Or.inl rfl) _ (show q.2.2 ≤ (q.2.1 ++ [(v, q.2.2)]).length - 1 by omega) (show (q.2.1 ++ [(v, q.2.2)]).length - 1 < (q.2.1 ++ [(v, q.2.2)]).length by omega)
                  rw [opR_close hall.2 hlt hop, hlast]
                  by_cases e : a = v
                  · rw [if_pos e, e, ep, wI_eq, f1]
                  · rw [if_neg e, wI_ne (by omega)]
                    exact hwk h0 a ha
            · have h41 : ¬ nI cm = nI 41 := h41
              rw [nI_eq (by omega) (by decide)] at h41
              have hn41 : tx[m]? ≠ some 41 := by
                rw [hgm]
                exact fun z => h41 (Option.some.inj z)
              iterate 4 refine hV.go rfl ?_
              refine ihd m (by omega) (by omega) hm2 hm3 z code k fi pr _ hs ?_ (by rw [hm6]; exact hkd) (by rw [hm6]; exact hmk) (by
                rw [hm6]
                refine ⟨hfp.1, fun h0 => Or.inl ⟨hlt, (hfp.2 h0).1, ?_⟩⟩
                show pr = nI (nmN (q.2.1 ++ [(v, q.2.2)]) ((q.2.1 ++ [(v, q.2.2)]).length - 1))
                rw [hlast]
                exact (hfp.2 h0).2) (by rw [hm6]; exact hwk)
              rcases hm7 with h | ⟨h, h'⟩
              · exact Or.inr (Or.inl ⟨h, hn41⟩)
              · exact Or.inr (Or.inr ⟨h, h', hn41⟩)
          -- the number stands
          have num : ∀ j' v : Nat, j < j' → j' ≤ tx.length → v < 100 → rdA (tx.take j') = (3, q.2.1 ++ [(v, q.2.2)], q.2.2) → ¬ isD tx j' → V 147 [some (vR 30), some (vI (nI code)), some (vI (nI k)), some (vI (nI j')), some (vI fi), some (vI pr), some (vI 1), some (vI (nI v))] [] u 0 := by
            intro j' v hjj hj' hv hq' hnd
            iterate 3 refine hV.go rfl ?_
            refine topI (V := V) (k1 u hs) ?_
            refine hV.go rfl ?_
            refine And.intro (fun hc => ?_) (fun hc => ?_)
            rotate_left
            · have hc : ¬ nI v < nI n := hc
              rw [nI_ltI (by omega) (by omega)] at hc
              iterate 3 refine hV.go rfl ?_
              exact behind j' v u 2 k fi pr hjj hj' hs hq' hnd (KD.out (by omega)) (hmk.out (by omega)) ⟨hfp.1, fun z => by cases z⟩ (fun z => by cases z)
            have hc : nI v < nI n := hc
            rw [nI_ltI (by omega) (by omega)] at hc
            have hk12 := hmk.1
            have mark : ∀ code', code' = (if code = 0 ∧ k.testBit v = true then 3 else code) → V 181 [some (vR 30), some (vI (nI code')), some (vI (nI k)), some (vI (nI j')), some (vI fi), some (vI pr), some (vI 1), some (vI (nI v))] [] u 0 := by
              intro code' hcode
              have hkd' : KD n (q.2.1 ++ [(v, q.2.2)]) code' := by
                rw [hcode]
                exact hkd.inn hmk hc
              have hmk' : MK n (q.2.1 ++ [(v, q.2.2)]) (k ||| 2 ^ v) := hmk.inn hn hc
              have hc0 : code' = 0 → code = 0 ∧ ndN (q.2.1 ++ [(v, q.2.2)]) := by
                intro h0
                refine ⟨?_, ?_⟩
                · rw [hcode] at h0
                  split at h0
                  · cases h0
                  · exact h0
                · rcases hkd' with ⟨z, -⟩ | ⟨z, -⟩ | ⟨-, h⟩
                  · omega
                  · omega
                  · exact h.2
              iterate 4 refine hV.go rfl ?_
              refine topI (V := V) (shl1 v (by omega)) ?_
              refine hV.go rfl ?_
              refine topI (V := V) (fa_or _ _) ?_
              iterate 3 refine hV.go rfl ?_
              refine And.intro (fun hlt0 => ?_) (fun hge => ?_)
              · have hpr : pr = -1 := by
                  rcases hfp.1 with h | ⟨p, hp, rfl⟩
                  · exact h
                  · exact absurd hlt0 (nI_pos (by omega))
                subst hpr
                iterate 2 refine hV.go rfl ?_
                refine And.intro (fun hc => absurd (show (0 : Int32) ≤ -1 from hc) (by decide)) (fun _ => ?_)
                iterate 5 refine hV.go rfl ?_
                refine behind j' v u code' (k ||| 2 ^ v) (nI v) (nI v) hjj hj' hs hq' hnd hkd' hmk' ⟨Or.inr ⟨v, hc, rfl⟩, fun h0 => ⟨?_, rfl⟩⟩ (fun h0 p hp => ?_)
                · obtain ⟨a1, a2⟩ := hc0 h0
                  rcases hfp.2 a1 with ⟨-, -, h⟩ | ⟨h, -⟩
                  · exact absurd h.symm (nI_m1 (by
                      have := hkd'
                      rcases this with ⟨z, -⟩ | ⟨z, -⟩ | ⟨-, h2, -⟩
                      · omega
                      · omega
                      · have hL : q.2.1.length - 1 < q.2.1.length ∨ q.2.1.length = 0 := by omega
                        rcases hL with hL | hL
                        · have := (all_app.mp h2).1 _ (List.mem_of_getElem? (nm_get hL))
                          have e : nmN q.2.1 (q.2.1.length - 1) < n := this
                          omega
                        · have : q.2.1 = [] := List.eq_nil_of_length_eq_zero hL
                          rw [this]
                          decide))
                  · rw [h, nmN_r]
                · obtain ⟨a1, a2⟩ := hc0 h0
                  rcases hfp.2 a1 with ⟨g1, -, h⟩ | ⟨h, -⟩
                  · have hL : q.2.1.length - 1 < q.2.1.length := by omega
                    have hall : ∀ x ∈ q.2.1, x.1 < n := by
                      rcases hkd with ⟨z, -⟩ | ⟨z, -⟩ | ⟨-, h2, -⟩
                      · omega
                      · omega
                      · exact h2
                    have e : nmN q.2.1 (q.2.1.length - 1) < n := hall _ (List.mem_of_getElem? (nm_get hL))
                    exact absurd h.symm (nI_m1 (by omega))
                  · rw [opR_add a2 hqH.1 hqB.2.1 hopen, if_neg (by omega)]
                    exact hwk a1 p hp
              · have hpr : ∃ p, p < n ∧ pr = nI p := by
                  rcases hfp.1 with rfl | h
                  · exact absurd (show (-1 : Int32) < 0 by decide) hge
                  · exact h
                obtain ⟨p, hp, rfl⟩ := hpr
                iterate 5 refine hV.go rfl ?_
                refine Exists.intro p (And.intro rfl (And.intro (show p < 12 by omega) ?_))
                iterate 2 refine hV.go rfl ?_
                refine And.intro (fun _ => ?_) (fun hc => absurd (show nI 0 ≤ nI p from nI_le (by omega) (by omega)) hc)
                iterate 4 refine hV.go rfl ?_
                refine behind j' v _ code' (k ||| 2 ^ v) fi (nI v) hjj hj' (Sm.wI (k := 36) hs (by decide)) hq' hnd hkd' hmk' ⟨Or.inr ⟨v, hc, rfl⟩, fun h0 => ⟨?_, rfl⟩⟩ (fun h0 a ha => ?_)
                · obtain ⟨a1, a2⟩ := hc0 h0
                  rcases hfp.2 a1 with ⟨g1, g2, -⟩ | ⟨-, h⟩
                  · rw [g2, nmN_l g1]
                  · exact absurd h (nI_m1 (by omega))
                · obtain ⟨a1, a2⟩ := hc0 h0
                  rcases hfp.2 a1 with ⟨g1, g2, g3⟩ | ⟨-, h⟩
                  · have hL : q.2.1.length - 1 < q.2.1.length := by omega
                    have hall : ∀ x ∈ q.2.1, x.1 < n := by
                      rcases hkd with ⟨z, -⟩ | ⟨z, -⟩ | ⟨-, h2, -⟩
                      · omega
                      · omega
                      · exact h2
                    have e : nmN q.2.1 (q.2.1.length - 1) < n := hall _ (List.mem_of_getElem? (nm_get hL))
                    have ep : p = nmN q.2.1 (q.2.1.length - 1) := (nI_eq (by omega) (by omega)).mp g3
                    rw [opR_add a2 hqH.1 hqB.2.1 hopen]
                    by_cases ea : a = nmN q.2.1 (q.2.1.length - 1)
                    · rw [if_pos ⟨g1, ea⟩, ea, ← ep, wI_eq]
                    · rw [if_neg (fun z => ea z.2), wI_ne (by omega)]
                      exact hwk a1 a ha
                  · exact absurd h (nI_m1 (by omega))
            have keep : ¬ (code = 0 ∧ k.testBit v = true) → V 179 [some (vR 30), some (vI (nI code)), some (vI (nI k)), some (vI (nI j')), some (vI fi), some (vI pr), some (vI 1), some (vI (nI v))] [] u 0 := by
              intro hno
              iterate 2 refine hV.go rfl ?_
              exact mark code (by rw [if_neg hno])
            have hcode : code < 4 := by
              rcases hkd with ⟨z, -⟩ | ⟨z, -⟩ | ⟨z, -⟩ <;> omega
            iterate 2 refine hV.go rfl ?_
            refine And.intro (fun hne => ?_) (fun heq => ?_)
            · refine keep (fun z => ?_)
              rw [z.1] at hne
              exact absurd rfl hne
            · have heq : nI code = nI 0 := Classical.not_not.mp heq
              rw [nI_eq (by omega) (by decide)] at heq
              iterate 5 refine hV.go rfl ?_
              refine topI (V := V) (sbit (k := k) (j := v) (by omega) (by omega)) ?_
              iterate 2 refine hV.go rfl ?_
              refine And.intro (fun hb => ?_) (fun hb => ?_)
              · refine keep (fun z => ?_)
                rw [z.2] at hb
                exact absurd rfl (show ¬ (1 : Int32) = 1 from hb)
              · have hbt : k.testBit v = true := by
                  cases hz : k.testBit v with
                  | true => rfl
                  | false =>
                    rw [hz] at hb
                    exact absurd (show ¬ (0 : Int32) = 1 by decide) hb
                iterate 3 refine hV.go rfl ?_
                exact mark 3 (by rw [if_pos ⟨heq, hbt⟩])
          iterate 4 refine hV.go rfl ?_
          refine Exists.intro j (And.intro rfl (And.intro (show j < 60 by omega) ?_))
          refine topI (V := V) hc1.1 ?_
          iterate 2 refine hV.go rfl ?_
          refine topI (V := V) (sub48 c1 hc1.2 hc48) ?_
          iterate 5 refine hV.go rfl ?_
          refine topI (V := V) (nI_1 j) ?_
          refine hV.go rfl ?_
          refine And.intro (callP_v (m_isDigit (i := j + 1) G (mx u hs) (by omega)) (by decide) (by decide) ?_) trivial
          refine hV.go rfl ?_
          refine And.intro (fun hd2 => ?_) (fun hd2 => ?_)
          · have hd2 : ¬ isD tx (j + 1) := cd_f.mp (b2i_eq.mp hd2)
            refine hV.go rfl ?_
            have := num (j + 1) (c1 - 48) (by omega) (by omega) (by omega) e1 hd2
            rw [← nI_inc j] at this
            exact this
          · have hd2 : isD tx (j + 1) := cd_t.mp (b2i_ne.mp hd2)
            obtain ⟨c2, hg2, h48, h57⟩ := hd2
            have hc2 := ch u (j + 1) c2 hs hg2
            have hjl2 := il hg2
            have e2 : rdA (tx.take (j + 1 + 1)) = rdS (3, q.2.1 ++ [(c1 - 48, q.2.2)], q.2.2) c2 := by rw [rd_take tx hg2, e1]
            have bad : (rdA tx).1 ≠ 1 → V 120 [some (vR 30), some (vI (nI code)), some (vI (nI k)), some (vI (nI j)), some (vI fi), some (vI pr), some (vI 1), some (vI (nI (c1 - 48)))] [] u 0 := by
              intro hb
              repeat refine hV.go rfl ?_
              exact ⟨hpo1 hb u hs, Nat.le_refl _⟩
            iterate 2 refine hV.go rfl ?_
            refine And.intro (fun h0 => ?_) (fun h0 => ?_)
            · have h0 : nI (c1 - 48) = nI 0 := h0
              rw [nI_eq (by omega) (by decide)] at h0
              refine bad (rd_bad (j := j + 1 + 1) ?_)
              rw [e2]
              exact rd_digX ⟨h48, h57⟩ (by omega)
            have h0 : ¬ nI (c1 - 48) = nI 0 := h0
            rw [nI_eq (by omega) (by decide)] at h0
            rw [rd_dig2 ⟨h48, h57⟩ (by omega) (by omega)] at e2
            iterate 4 refine hV.go rfl ?_
            refine topI (V := V) (nI_add j 2) ?_
            refine hV.go rfl ?_
            refine And.intro (callP_v (m_isDigit (i := j + 2) G (mx u hs) (by omega)) (by decide) (by decide) ?_) trivial
            refine hV.go rfl ?_
            refine And.intro (fun hd3 => ?_) (fun hd3 => ?_)
            rotate_left
            · have hd3 : isD tx (j + 2) := cd_t.mp (b2i_ne.mp hd3)
              obtain ⟨c3, hg3, a48, a57⟩ := hd3
              refine bad (rd_bad (j := j + 2 + 1) ?_)
              rw [rd_take tx hg3, show j + 2 = j + 1 + 1 by omega, e2]
              exact rd_digX ⟨a48, a57⟩ (by omega)
            have hd3 : ¬ isD tx (j + 2) := cd_f.mp (b2i_eq.mp hd3)
            iterate 3 refine hV.go rfl ?_
            refine topI (V := V) (nI_mul 10 _) ?_
            iterate 5 refine hV.go rfl ?_
            refine topI (V := V) (nI_1 j) ?_
            refine hV.go rfl ?_
            refine Exists.intro (j + 1) (And.intro rfl (And.intro (show j + 1 < 60 by omega) ?_))
            refine topI (V := V) hc2.1 ?_
            refine hV.go rfl ?_
            refine topI (V := V) (nI_add _ _) ?_
            iterate 2 refine hV.go rfl ?_
            refine topI (V := V) (sub48b (10 * (c1 - 48) + c2) (by omega) (by omega)) ?_
            iterate 3 refine hV.go rfl ?_
            have := num (j + 1 + 1) (10 * (c1 - 48) + (c2 - 48)) (by omega) (by omega) (by omega) e2 hd3
            rw [show 10 * (c1 - 48) + (c2 - 48) = 10 * (c1 - 48) + c2 - 48 by omega, ← nI_inc (j + 1), ← nI_inc j] at this
            exact this
      iterate 8 refine hV.go rfl ?_
      refine topI (V := V) (nI_1 i) ?_
      refine hV.go rfl ?_
      refine And.intro (callP_r (skp u0 (i + 1) hs (by omega)) (by decide) (by decide) (fun r z hp => ?_)) trivial
      obtain ⟨rfl, m, rfl, b1, b2, b3, b4⟩ := hp
      have b5 : rdA (tx.take m) = (2, (rdA (tx.take i)).2.1, (rdA (tx.take i)).2.1.length) := by
        rw [b4, hq2]
        by_cases e : m = i + 1
        · rw [if_pos e]
        · rw [if_neg e]
          rfl
      iterate 3 refine hV.go rfl ?_
      refine inn (tx.length - m + 1) m (by omega) (by omega) b2 b3 z code k (-1) (-1) x7 hs (Or.inl (by rw [b5])) (by rw [b5]; exact hkd) (by rw [b5]; exact hmk) ⟨Or.inl rfl, fun _ => Or.inr ⟨by rw [b5], rfl⟩⟩ (fun h0 p hp => ?_)
      rw [b5, hwk h0 p hp]
      show _ = nI (opR (rdA (tx.take i)).2.1 (rdA (tx.take i)).2.1.length p)
      unfold opR
      rw [if_neg (fun z => by have := z.1; omega)]
  have init : ∀ c i : Nat, i + c = 12 → ∀ u, Sm [36] w u → (∀ p, p < i → u.1 36 0 p = nI p) → V 6 [some (vR 30), some (vI (nI 0)), some (vI (nI 0)), some (vI (nI i)), none, none, none, none] [] u 0 := by
    intro c
    induction c with
    | zero =>
      intro i hi u hs hu
      iterate 3 refine hV.go rfl ?_
      refine And.intro (fun _ => ?_) (fun hc => absurd (show nI 12 ≤ nI i from nI_le (by omega) (by omega)) hc)
      iterate 3 refine hV.go rfl ?_
      refine And.intro (callP_r (skp u 0 hs (Nat.zero_le _)) (by decide) (by decide) (fun r z hp => ?_)) trivial
      obtain ⟨rfl, m, rfl, b1, b2, b3, b4⟩ := hp
      have b5 : (rdA (tx.take m)).1 = 1 ∧ (rdA (tx.take m)).2.1 = [] := by
        rw [b4]
        by_cases e : m = 0
        · rw [if_pos e]
          exact ⟨rfl, rfl⟩
        · rw [if_neg e]
          exact ⟨rfl, rfl⟩
      refine hV.go rfl ?_
      refine outer (tx.length - m + 1) m (by omega) b2 b3 z 0 0 none none none none hs b5.1 (by rw [b5.2]; exact Or.inr (Or.inr ⟨rfl, (fun x hx => by cases hx), fun i j _ hj => absurd hj (Nat.not_lt_zero _)⟩)) (by rw [b5.2]; exact ⟨by decide, fun p => ⟨fun h => by simp at h, fun ⟨_, x, hx, _⟩ => by cases hx⟩⟩) (fun _ p hp => ?_)
      rw [b5.2, hu p (by omega)]
      rfl
    | succ c ih =>
      intro i hi u hs hu
      iterate 3 refine hV.go rfl ?_
      refine And.intro (fun hc => ?_) (fun _ => ?_)
      · have hc : nI 12 ≤ nI i := hc
        rw [nI_leI (by omega) (by omega)] at hc
        omega
      iterate 5 refine hV.go rfl ?_
      refine Exists.intro i (And.intro rfl (And.intro (show i < 12 by omega) ?_))
      iterate 2 refine hV.go rfl ?_
      have := ih (i + 1) (by omega) (wI u 36 0 i (nI i)) (Sm.wI (k := 36) hs (by decide)) (fun p hp => by
        by_cases e : p = i
        · rw [e, wI_eq]
        · rw [wI_ne (by omega)]
          exact hu p (by omega))
      rw [← nI_inc i] at this
      exact this
  iterate 6 refine hV.go rfl ?_
  exact init 12 0 rfl w Sm.rf (fun p hp => by omega)
end
