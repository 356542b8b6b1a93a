/-! solve and within -/
def Gdy (mv : List (Nat → Nat)) : Nat → (Nat → Nat) → List Nat → Prop
  | 0, _, r => r = []
  | d + 1, f, r => ∃ i m q, r = i :: q ∧ mv[i]? = some m ∧ Dst mv (cmp f m) d ∧ (∀ j m', j < i → mv[j]? = some m' → ¬ Dst mv (cmp f m') d) ∧ Gdy mv d (cmp f m) q
theorem Gdy.len {mv : List (Nat → Nat)} : ∀ {d : Nat} {f : Nat → Nat} {r : List Nat}, Gdy mv d f r → r.length = d
  | 0, f, r, h => by
    have h : r = [] := h
    rw [h]
    rfl
  | d + 1, f, r, h => by
    obtain ⟨i, m, q, rfl, -, -, -, h⟩ := h
    rw [List.length_cons, Gdy.len h]
theorem Gdy.lt {mv : List (Nat → Nat)} : ∀ {d : Nat} {f : Nat → Nat} {r : List Nat}, Gdy mv d f r → ∀ i ∈ r, i < mv.length
  | 0, f, r, h, i, hi => by
    have h : r = [] := h
    rw [h] at hi
    cases hi
  | d + 1, f, r, h, i, hi => by
    obtain ⟨j, m, q, rfl, h1, -, -, h⟩ := h
    rcases List.mem_cons.mp hi with rfl | hi
    · exact (List.getElem?_eq_some_iff.mp h1).1
    · exact Gdy.lt h i hi
theorem Gdy.uniq {mv : List (Nat → Nat)} : ∀ {d : Nat} {f : Nat → Nat} {r r' : List Nat}, Gdy mv d f r → Gdy mv d f r' → r = r'
  | 0, f, r, r', h, h' => by
    have h : r = [] := h
    have h' : r' = [] := h'
    rw [h, h']
  | d + 1, f, r, r', h, h' => by
    obtain ⟨i, m, q, rfl, a1, a2, a3, a4⟩ := h
    obtain ⟨i', m', q', rfl, b1, b2, b3, b4⟩ := h'
    have e : i = i' := by
      rcases Nat.lt_trichotomy i i' with z | z | z
      · exact (b3 i m z a1 a2).elim
      · exact z
      · exact (a3 i' m' z b1 b2).elim
    subst e
    rw [a1] at b1
    cases b1
    rw [Gdy.uniq a4 b4]
def WT (mv : List (Nat → Nat)) (f : Nat → Nat) (k : Nat) (x : Int32) : Prop := (∃ d, d ≤ k ∧ Dst mv f d ∧ x = nI d) ∨ ((∀ d, d ≤ k → ¬ Dst mv f d) ∧ x = -1)
theorem WT.uniq {mv : List (Nat → Nat)} {f : Nat → Nat} {k : Nat} {x y : Int32} (h : WT mv f k x) (h' : WT mv f k y) : x = y := by
  rcases h with ⟨d, a, b, rfl⟩ | ⟨a, rfl⟩
  · rcases h' with ⟨d', a', b', rfl⟩ | ⟨a', rfl⟩
    · rw [b.uniq b']
    · exact (a' d a b).elim
  · rcases h' with ⟨d', a', b', rfl⟩ | ⟨a', rfl⟩
    · exact (a d' a' b').elim
    · rfl
theorem nI_m1 {n : Nat} (h : n < 2 ^ 31) : nI n ≠ -1 := fun e => by
  have := congrArg Int32.toInt e
  rw [nI_toInt h] at this
  have h2 : (-1 : Int32).toInt = -1 := by decide
  omega
section
variable {l : Launch} {E : En}
theorem c_nearerMove {w : Wd} {ts : List (Nat → Nat)} {B : BL} {sl : Nat → Nat} {f : Nat → Nat} {d : Nat} {po : Option AV → Wd → Prop} (G : GC l E) (hmv : MvW w (mvs ts)) (h7 : w.1 0 0 7 = nI ts.length) (hb : BaW w B sl) (hH : HT B sl) (hB1 : ∀ x ∈ B, Dst (mvs ts) x.1 x.2) (hB2 : ∀ n g, Rn (mvs ts) n g → ∃ x ∈ B, x.1 = g) (hB3 : ∀ x ∈ B, x.2 ≤ 1500) (hf : Pm f) (hd : d ≤ 1500) (hex : ∃ m ∈ mvs ts, Dst (mvs ts) (cmp f m) d)
    (hpo : ∀ i m, (mvs ts)[i]? = some m → Dst (mvs ts) (cmp f m) d → (∀ j m', j < i → (mvs ts)[j]? = some m' → ¬ Dst (mvs ts) (cmp f m') d) → po (some (vI (nI i))) w) : Ctr l E 3 0 mX4_nearerMove [vR 0, vJ (rw f), vI (nI d)] w po noX := by
  refine Ctr.of (tw := []) G.1 G.2 oX4_ok pgX4_nearerMove rfl (by decide) rfl rfl (Nat.le_of_ble_eq_true rfl) ?_
  intro V hV
  have hl := mvs_len ts
  have hl10 := hmv.1
  have loop : ∀ c i : Nat, i + c = (mvs ts).length → (∀ j m', j < i → (mvs ts)[j]? = some m' → ¬ Dst (mvs ts) (cmp f m') d) → V 3 [some (vR 0), some (vJ (rw f)), none, some (vI (nI d)), some (vI (nI i))] [] w 0 := by
    intro c
    induction c with
    | zero =>
      intro i hi hno
      obtain ⟨m, hm, hD⟩ := hex
      obtain ⟨j, hj⟩ := List.getElem?_of_mem hm
      exact (hno j m (by have := (List.getElem?_eq_some_iff.mp hj).1; omega) hj hD).elim
    | succ c ih =>
      intro i hi hno
      have hm : (mvs ts)[i]? = some (mvs ts)[i] := List.getElem?_eq_getElem (by omega)
      have hmm := List.mem_of_getElem? hm
      have hpm := hmv.2.1 _ hmm
      iterate 4 refine hV.go rfl ?_
      refine topI (V := V) h7 ?_
      refine hV.go rfl ?_
      refine topI (V := V) (show (2 : Int32) * nI ts.length = nI (2 * ts.length) from (Int32.ofNat_mul 2 _).symm) ?_
      refine hV.go rfl ?_
      refine And.intro (fun hc => ?_) (fun hc => ?_)
      · have hc : nI (2 * ts.length) ≤ nI i := hc
        rw [nI_leI (by omega) (by omega)] at hc
        omega
      · iterate 7 refine hV.go rfl ?_
        refine Exists.intro i (And.intro rfl (And.intro (show i < 10 by omega) ?_))
        refine topJ (V := V) (hmv.2.2 _ _ hm) ?_
        refine hV.go rfl ?_
        refine And.intro (callP_v (c_then G hf.1 hpm.lt16 _) (by decide) (by decide) ?_) trivial
        refine hV.go rfl ?_
        refine And.intro (callP_r (c_farOf (po := fun v z => z = w ∧ ((∃ e, v = some (vI (nI e)) ∧ e ≤ 1500 ∧ Dst (mvs ts) (cmp f (mvs ts)[i]) e) ∨ (v = some (vI (-1)) ∧ ∀ n, ¬ Rn (mvs ts) n (cmp f (mvs ts)[i])))) G hb hH (hf.cmp hpm) (fun e he => ⟨rfl, Or.inl ⟨e, rfl, hB3 _ he, hB1 _ he⟩⟩) (fun h => ⟨rfl, Or.inr ⟨rfl, fun n hn => by
          obtain ⟨x, hx, e⟩ := hB2 n _ hn
          exact h x hx e⟩⟩)) (by decide) (by decide) (fun r u hp => ?_)) trivial
        have next : ¬ Dst (mvs ts) (cmp f (mvs ts)[i]) d → V 39 [some (vR 0), some (vJ (rw f)), none, some (vI (nI d)), some (vI (nI i))] [] w 0 := by
          intro hnd
          iterate 2 refine hV.go rfl ?_
          have := ih (i + 1) (by omega) (fun j m' hj hm' => by
            by_cases e : j = i
            · subst e
              rw [hm] at hm'
              cases hm'
              exact hnd
            · exact hno j m' (by omega) hm')
          rw [← nI_inc] at this
          exact this
        obtain ⟨rfl, ⟨e, rfl, he, hD⟩ | ⟨rfl, hno2⟩⟩ := hp
        · iterate 2 refine hV.go rfl ?_
          refine And.intro (fun hc => ?_) (fun hc => ?_)
          · have hc : ¬ nI e = nI d := hc
            rw [nI_eq (by omega) (by omega)] at hc
            exact next (fun z => hc (hD.uniq z))
          · have hc : nI e = nI d := Classical.not_not.mp hc
            rw [nI_eq (by omega) (by omega)] at hc
            subst hc
            repeat refine hV.go rfl ?_
            exact ⟨hpo i _ hm hD hno, Nat.le_refl _⟩
        · iterate 2 refine hV.go rfl ?_
          refine And.intro (fun hc => ?_) (fun hc => ?_)
          · exact next (fun z => hno2 _ z.1)
          · have hc : (-1 : Int32) = nI d := Classical.not_not.mp hc
            exact (nI_m1 (by omega) hc.symm).elim
  iterate 2 refine hV.go rfl ?_
  exact loop _ 0 (Nat.zero_add _) (fun j m' hj => by omega)
theorem c_findSolution {w : Wd} {A : AS} {B : BL} {sl : Nat → Nat} {d : Nat} {po : Option AV → Wd → Prop} (G : GC l E) (hw : KI w A) (hb : BaW w B sl) (hH : HT B sl) (hB1 : ∀ x ∈ B, Dst (mvs A.2.1) x.1 x.2) (hB2 : ∀ n g, Rn (mvs A.2.1) n g → ∃ x ∈ B, x.1 = g) (hB3 : ∀ x ∈ B, x.2 ≤ 1500) (hd : d ≤ 1500) (hD : Dst (mvs A.2.1) A.2.2.1 d)
    (hpo : ∀ u so, Gdy (mvs A.2.1) d A.2.2.1 so → KI u (A.1, A.2.1, A.2.2.1, A.2.2.2.1, so) → Sm clK w u → po none u) : Ctr l E 4 0 mX4_findSolution [vR 0, vI (nI d)] w po noX := by
  refine Ctr.of (tw := []) G.1 G.2 oX4_ok pgX4_findSolution rfl (by decide) rfl rfl (Nat.le_of_ble_eq_true rfl) ?_
  intro V hV
  obtain ⟨⟨⟨n1, n2, n3, n4, n5, n6⟩, mv, ck, bk, sk⟩, xk⟩ := id hw
  have hsym := mvs_sym (fun t ht => (n2.2 t ht).1)
  have hl10 := mv.1
  have loop : ∀ c i : Nat, i + c = d → ∀ (u : Wd) (f : Nat → Nat) (pre : List Nat), Sm [5] w u → pre.length = i → (∀ j m, pre[j]? = some m → u.1 5 0 j = nI m) → Pm f → Dst (mvs A.2.1) f c → (∀ q, Gdy (mvs A.2.1) c f q → Gdy (mvs A.2.1) d A.2.2.1 (pre ++ q)) → ∀ x5 : Option AV, V 8 [some (vR 0), some (vI (nI d)), some (vJ (rw f)), none, some (vI (nI i)), x5] [] u 0 := by
    intro c
    induction c with
    | zero =>
      intro i hi u f pre hs hpl hpe hf hDf hG x5
      iterate 3 refine hV.go rfl ?_
      refine And.intro (fun hc => ?_) (fun hc => ?_)
      · have hg := hG [] rfl
        rw [List.append_nil] at hg
        repeat refine hV.go rfl ?_
        have hu0 := hs 0 (by decide)
        have sm : Sm [0] u (wI u 0 0 8 (nI d)) := Sm.wI (k := 0) Sm.rf (by decide)
        refine ⟨hpo _ pre hg ⟨⟨⟨n1, n2, n3, ?_, ?_, ?_⟩, (mv.sm hs (by decide)).sm sm (by decide), (ck.sm hs (by decide)).sm sm (by decide), (bk.cg hs (by decide) (by rw [hu0.1])).cg sm (by decide) (by simp [wI_get]), ?_, ?_, ?_, ?_⟩, xk.cg ?_ ?_⟩ ((hs.mono (by decide)).tr (sm.mono (by decide))), Nat.le_refl _⟩
        · simp [wI_get, hu0.1, n4]
        · simp [wI_get, hu0.1, n5]
        · rw [wI_2, hu0.2]; exact n6
        · show pre.length ≤ 1500
          omega
        · show (wI u 0 0 8 (nI d)).1 0 0 8 = nI pre.length
          rw [wI_get, if_pos ⟨rfl, rfl, rfl⟩, show pre.length = d by omega]
        · intro j m hj
          rw [(sm 5 (by decide)).1]
          exact hpe j m hj
        · intro m hm
          have := hg.lt m hm
          omega
        · exact (sm 1 (by decide)).1.trans (hs 1 (by decide)).1
        · exact (sm 7 (by decide)).1.trans (hs 7 (by decide)).1
      · exact absurd (show nI d ≤ nI i from nI_le (by omega) (by omega)) hc
    | succ c ih =>
      intro i hi u f pre hs hpl hpe hf hDf hG x5
      iterate 3 refine hV.go rfl ?_
      refine And.intro (fun hc => ?_) (fun hc => ?_)
      · have hc : nI d ≤ nI i := hc
        rw [nI_leI (by omega) (by omega)] at hc
        omega
      iterate 3 refine hV.go rfl ?_
      refine And.intro (fun hc => ?_) (fun hc => ?_)
      · have hc : nI 1500 ≤ nI i := hc
        rw [nI_leI (by omega) (by omega)] at hc
        omega
      iterate 5 refine hV.go rfl ?_
      refine topI (V := V) (show nI d - nI i = nI (c + 1) by rw [show d = c + 1 + i by omega, ← nI_add (c + 1) i]; exact Int32.add_sub_cancel _ _) ?_
      iterate 2 refine hV.go rfl ?_
      refine topI (V := V) (nI_pred c) ?_
      refine hV.go rfl ?_
      refine And.intro (callP_r (c_nearerMove (po := fun v z => z = u ∧ ∃ k m, v = some (vI (nI k)) ∧ (mvs A.2.1)[k]? = some m ∧ Dst (mvs A.2.1) (cmp f m) c ∧ ∀ j m', j < k → (mvs A.2.1)[j]? = some m' → ¬ Dst (mvs A.2.1) (cmp f m') c) G (mv.sm hs (by decide)) (by rw [(hs 0 (by decide)).1]; exact n5) (hb.sm hs (by decide)) hH hB1 hB2 hB3 hf (by omega) (hDf.near hsym) (fun k m a b e => ⟨rfl, k, m, rfl, a, b, e⟩)) (by decide) (by decide) (fun r z hp => ?_)) trivial
      obtain ⟨rfl, k, m, rfl, hk, hDm, hmin⟩ := hp
      have hk2 := (List.getElem?_eq_some_iff.mp hk).1
      have hpm := mv.2.1 m (List.mem_of_getElem? hk)
      iterate 6 refine hV.go rfl ?_
      refine Exists.intro i (And.intro rfl (And.intro (show i < 1500 by omega) ?_))
      iterate 5 refine hV.go rfl ?_
      refine Exists.intro k (And.intro rfl (And.intro (show k < 10 by omega) ?_))
      refine topJ (V := V) (show (wI z 5 0 i (nI k)).2 4 0 k = rw m by rw [wI_2, (hs 4 (by decide)).2]; exact mv.2.2 _ _ hk) ?_
      refine hV.go rfl ?_
      refine And.intro (callP_v (c_then G hf.1 hpm.lt16 _) (by decide) (by decide) ?_) trivial
      iterate 3 refine hV.go rfl ?_
      have := ih (i + 1) (by omega) (wI z 5 0 i (nI k)) (cmp f m) (pre ++ [k]) (Sm.wI (k := 5) hs (by decide)) (by rw [List.length_append, hpl]; rfl) (fun j m' hj => by
        by_cases e : j < pre.length
        · rw [List.getElem?_append_left e] at hj
          rw [wI_get, if_neg (by omega)]
          exact hpe j m' hj
        · have hlt := (List.getElem?_eq_some_iff.mp hj).1
          simp only [List.length_append, List.length_cons, List.length_nil] at hlt
          have e2 : j = pre.length := by omega
          subst e2
          rw [List.getElem?_append_right (Nat.le_refl _), Nat.sub_self] at hj
          cases hj
          rw [wI_get, if_pos (by omega)]) (hf.cmp hpm) hDm (fun q hq => by
        rw [List.append_assoc]
        exact hG _ ⟨k, m, q, rfl, hk, hDm, hmin, hq⟩) (some (vI (nI k)))
      rw [← nI_inc] at this
      exact this
  iterate 2 refine hV.go rfl ?_
  refine topJ (V := V) n6 ?_
  iterate 3 refine hV.go rfl ?_
  exact loop d 0 (by omega) w A.2.2.1 [] Sm.rf rfl (fun j m hj => by cases hj) n3.1 hD (fun q hq => hq) none
theorem c_solve {w : Wd} {A : AS} {po : Option AV → Wd → Prop} {xo : String → Wd → Prop} (G : GC l E) (hw : KI w A)
    (h1 : oN A.2.1 ≤ 1500 → ∀ d so, Gen A.2.1 A.2.2.1 → Dst (mvs A.2.1) A.2.2.1 d → Gdy (mvs A.2.1) d A.2.2.1 so → d ≤ 1500 → ∀ u, KI u (A.1, A.2.1, A.2.2.1, A.2.2.2.1, so) → Sm clK w u → po (some (vI (nI d))) u)
    (h2 : oN A.2.1 ≤ 1500 → ¬ Gen A.2.1 A.2.2.1 → ∀ u, KI u A → Sm clK w u → xo xIS u) (h3 : ¬ oN A.2.1 ≤ 1500 → xo xUO w) : Ctr l E 6 2 mX4_solve [vR 0] w po xo := by
  refine Ctr.of (tw := tX4_solve) G.1 G.2 oX4_ok pgX4_solve twX4_solve (by decide) rfl rfl (Nat.le_of_ble_eq_true rfl) ?_
  intro V hV
  have hp : ∀ t ∈ A.2.1, Pm t := fun t ht => (hw.1.1.2.1.2 t ht).1
  obtain ⟨s, hc, hcp⟩ := hw.1.2.2.1.cp
  iterate 2 refine hV.go rfl ?_
  refine And.intro (callP_x (c_requireFew (po := fun v z => v = none ∧ oN A.2.1 ≤ 1500 ∧ KI z A ∧ z.1 0 0 10 = 1 ∧ Sm clK w z) (xo := fun X z => X = xUO ∧ z = w ∧ ¬ oN A.2.1 ≤ 1500) G hw (fun f u a b c => ⟨rfl, f, a, b, c⟩) (fun h => ⟨rfl, rfl, h⟩)) (by decide) (by decide) (fun r u hq => ?_) (fun X u hq => ?_)) trivial
  · obtain ⟨rfl, hf, a, b, c⟩ := hq
    obtain ⟨B, sl, k1, k2, k3⟩ := a.bk b
    rw [radf_few hf] at k3
    have hall := ball_all hcp hp hf k3
    have n3 := a.1.1.2.2.1
    iterate 4 refine hV.go rfl ?_
    refine topJ (V := V) a.1.1.2.2.2.2.2 ?_
    refine hV.go rfl ?_
    refine And.intro (callP_r (c_farOf (po := fun v z => z = u ∧ ((∃ e, v = some (vI (nI e)) ∧ (A.2.2.1, e) ∈ B) ∨ (v = some (vI (-1)) ∧ ¬ Gen A.2.1 A.2.2.1))) G k1 k2 n3.1 (fun e he => ⟨rfl, Or.inl ⟨e, rfl, he⟩⟩) (fun h => ⟨rfl, Or.inr ⟨rfl, fun g => by
      obtain ⟨x, hx, e⟩ := (hall _).mp g
      exact h x hx e⟩⟩)) (by decide) (by decide) (fun r z hq => ?_)) trivial
    obtain ⟨rfl, ⟨d, rfl, hm⟩ | ⟨rfl, hno⟩⟩ := hq
    · have hD := k3.1 _ hm
      have hd : d ≤ 1500 := k3.2.2.2.2 _ hm
      iterate 4 refine hV.go rfl ?_
      refine And.intro (fun _ => ?_) (fun hc => ?_)
      · iterate 3 refine hV.go rfl ?_
        refine And.intro (callP_r (c_findSolution (d := d) (po := fun v y => v = none ∧ ∃ so, Gdy (mvs A.2.1) d A.2.2.1 so ∧ KI y (A.1, A.2.1, A.2.2.1, A.2.2.2.1, so) ∧ Sm clK z y) G a k1 k2 k3.1 (fun n g hr => (hall g).mp (Rn_gen hp hr)) k3.2.2.2.2 hd hD (fun y so i1 i2 i3 => ⟨rfl, so, i1, i2, i3⟩)) (by decide) (by decide) (fun r y hq => ?_)) trivial
        obtain ⟨rfl, so, i1, i2, i3⟩ := hq
        repeat refine hV.go rfl ?_
        exact ⟨h1 hf d so ((hall _).mpr ⟨_, hm, rfl⟩) hD i1 hd y i2 (c.tr i3), by decide⟩
      · have hc : nI d = -1 := Classical.not_not.mp hc
        exact (nI_m1 (by omega) hc).elim
    · iterate 4 refine hV.go rfl ?_
      refine And.intro (fun hc => absurd rfl hc) (fun hc => ?_)
      refine hV.go rfl ?_
      exact ⟨h2 hf hno _ a c, Nat.le_refl _⟩
  · obtain ⟨rfl, rfl, hb⟩ := hq
    exact h3 hb
end
