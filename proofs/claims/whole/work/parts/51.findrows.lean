/-! finding all rows -/
theorem dv13 : ∀ x, x < 144 → nI x - nI x / 13 * 13 = nI (x % 13) := by decide +kernel
theorem H_lo {s : CS} (hcw : CW s) : ∀ k, k ≤ 12 → ∀ f, Fx k f → (H s 0 f ↔ H s k f)
  | 0, _, f, _ => Iff.rfl
  | k + 1, hk, f, hf => (H_lo hcw k (by omega) f (hf.mono (by omega))).trans (H_dn hcw (by omega) hf)
theorem H_tk {s : CS} (hcw : CW s) {k p : Nat} (hk : k < 12) (hp : p ∈ cO s k) : H s 0 (cT s k p) := by
  have hf := tk_fx hcw hk hp
  rw [H_lo hcw k (by omega) _ hf]
  exact (H_split hcw hk hf).mpr ⟨p, hp, idp, Fx.id _, H_id hcw (12 - (k + 1)) (k + 1) (by omega), rfl⟩
def PS (s : CS) (x y : Nat) : Prop := x % 12 ∈ cO s (x / 12) → y % 12 ∈ cO s (y / 12) → x % 13 ≠ 0 → y % 13 ≠ 0 → H s 0 (cmp (cT s (x / 12) (x % 12)) (cT s (y / 12) (y % 12)))
theorem P2.of {s : CS} (hcw : CW s) (h : ∀ x y, x < 144 → y < 144 → PS s x y) : P2 s := by
  intro k j p q hkj hj hp hq
  have hp12 : p < 12 := ((hcw k (by omega)).2.2.2.1 p hp).1
  have hq12 : q < 12 := ((hcw j hj).2.2.2.1 q hq).1
  have fa := tk_fx hcw (show k < 12 by omega) hp
  have fb := (tk_fx hcw hj hq).mono hkj
  rw [← H_lo hcw k (by omega) _ (fa.cmp fb)]
  by_cases e1 : p = k
  · subst e1
    rw [(hcw p (by omega)).2.2.1, id_cmp]
    exact H_tk hcw hj hq
  · by_cases e2 : q = j
    · subst e2
      rw [(hcw q hj).2.2.1, cmp_id]
      exact H_tk hcw (by omega) hp
    · have := h (12 * k + p) (12 * j + q) (by omega) (by omega)
      unfold PS at this
      rw [show (12 * k + p) / 12 = k by omega, show (12 * k + p) % 12 = p by omega, show (12 * j + q) / 12 = j by omega, show (12 * j + q) % 12 = q by omega] at this
      exact this hp hq (by omega) (by omega)
theorem MC.hasx {w : Wd} {s : CS} (h : MC w s) {x : Nat} (hx : x < 144) : w.1 34 0 x = b2i (decide (x % 12 ∈ cO s (x / 12))) := by
  have := h.has (show x / 12 < 12 by omega) (show x % 12 < 12 by omega)
  rwa [show 12 * (x / 12) + x % 12 = x by omega] at this
theorem MC.rowx {w : Wd} {s : CS} (h : MC w s) {x : Nat} (hx : x < 144) (e : x % 12 ∈ cO s (x / 12)) : Rw w 35 (12 * x) (cT s (x / 12) (x % 12)) := by
  have := h.row (show x / 12 < 12 by omega) (show x % 12 < 12 by omega) e
  rwa [show 12 * (x / 12) + x % 12 = x by omega] at this
def RS (s s' : CS) (b : Bool) (x y : Nat) : Prop := (b = false ∧ s' = s ∧ ∀ a c, a < 144 → c < 144 → (a < x ∨ (a = x ∧ c < y)) → PS s a c) ∨ (b = true ∧ totN s 12 < totN s' 12)
theorem RS.skip {s s' : CS} {b : Bool} {x y : Nat} (h : RS s s' b x y) (hp : PS s' x y) : RS s s' b x (y + 1) := by
  rcases h with ⟨rfl, rfl, h⟩ | h
  · refine Or.inl ⟨rfl, rfl, fun a c ha hc hac => ?_⟩
    by_cases e : a = x ∧ c = y
    · rw [e.1, e.2]
      exact hp
    · exact h a c ha hc (by omega)
  · exact Or.inr h
abbrev frK : List Nat := [30, 34, 35, 36, 38]
def FV (w1 : Wd) (ts : List (Nat → Nat)) (u : Wd) (s : CS) : Prop := Sm [34, 35, 36, 38] w1 u ∧ MC u s ∧ CI ts s
section
variable {l : Launch} {E : En}
theorem m_findRows {w : Wd} {A : AS} {po : Option AV → Wd → Prop} (G : GM l E) (hw : QI w A) (hpo : ∀ u, QI u A → u.1 30 0 7 = 1 → u.1 30 0 0 = w.1 30 0 0 → Sm frK w u → po none u) : Ctr l E 3 0 mX5_findRows [vR 30] w po noX := by
  refine Ctr.of (tw := []) G.1 G.2 oX5_ok pgX5_findRows rfl (by decide) rfl rfl (Nat.le_of_ble_eq_true rfl) ?_
  intro V hV
  obtain ⟨⟨n1, n2, n3, n4, n5, n6, n7⟩, hx, hsl, hr⟩ := id hw
  have hpm : ∀ t ∈ A.2.1, Pm t := fun t ht => (n2.2 t ht).1
  iterate 3 refine hV.go rfl ?_
  refine And.intro (fun hc => ?_) (fun hc => ?_)
  · iterate 3 refine hV.go rfl ?_
    refine And.intro (Or.inr rfl) ?_
    iterate 3 refine hV.go rfl ?_
    refine And.intro (Or.inl rfl) ?_
    have key : ∀ w1 : Wd, w1 = wI (wI w 30 0 7 1) 30 0 13 0 → V 18 [some (vR 30), none, none, none] [] w1 0 := by
      intro w1 hw1
      have sm1 : Sm frK w w1 := by
        rw [hw1]
        exact Sm.wI (k := 30) (Sm.wI (k := 30) Sm.rf (by decide)) (by decide)
      have e30 : ∀ j, j ≠ 7 → j ≠ 13 → w1.1 30 0 j = w.1 30 0 j := fun j h7 h13 => by
        rw [hw1, wI_ne (by omega), wI_ne (by omega)]
      have fin : ∀ u s, FV w1 A.2.1 u s → (∀ t ∈ A.2.1, H s 0 t) → P2 s → po none u := by
        intro u s hf hh hp
        obtain ⟨f1, f2, f3⟩ := hf
        have e0 := (f1 30 (by decide)).1
        have sw : Sm frK w u := sm1.tr (f1.mono (by decide))
        have g : ∀ j, j ≠ 7 → j ≠ 13 → u.1 30 0 j = w.1 30 0 j := fun j a b => by rw [e0]; exact e30 j a b
        have u7 : u.1 30 0 7 = 1 := by
          rw [e0, hw1, wI_ne (by decide), wI_eq]
        have u13 : u.1 30 0 13 = 0 := by
          rw [e0, hw1, wI_eq]
        have s1 : Sm [30] w w1 := by
          rw [hw1]
          exact Sm.wI (k := 30) (Sm.wI (k := 30) Sm.rf (by decide)) (by decide)
        have g1 : ∀ k, k ∉ [30, 34, 35, 36, 38] → u.1 k = w.1 k := fun k hk => ((s1.mono (by decide)).tr (f1.mono (by decide)) k hk).1
        exact hpo u ⟨hw.1.cg (g 1 (by decide) (by decide)) (g 2 (by decide) (by decide)) (g1 31 (by decide)) (g1 32 (by decide)), hw.2.1.cg (g 5 (by decide) (by decide)) (g1 33 (by decide)), hw.2.2.1.cg (g 16 (by decide) (by decide)) (g1 41 (by decide)), Or.inr ⟨u7, ⟨s, f2, CP.of2 f3.1 hp hpm f3.2 hh⟩, Or.inl u13⟩⟩ u7 (g 0 (by decide) (by decide)) sw
      have sift : ∀ u s g, FV w1 A.2.1 u s → Gen A.2.1 g → Rw u 36 0 g → Ctr l E 2 0 mX5_sift [vR 30] u (fun v z => ∃ s' b, v = some (vI (b2i b)) ∧ SR A.1 s g s' b ∧ FV w1 A.2.1 z s' ∧ Ext s s' ∧ H s' 0 g ∧ (b = true → totN s 12 < totN s' 12)) noX := by
        intro u s g hf hg hk
        obtain ⟨f1, f2, f3⟩ := hf
        refine m_sift G (n := A.1) (s := s) (g := g) ?_ n1.2 f2 f3.1 (Gen.lw n2.2 hg) (fun j p hj hp => Gen.lw n2.2 (f3.2 j p hj hp)) hk (fun z s' b h1 h2 h3 => ?_)
        · rw [(f1 30 (by decide)).1, e30 1 (by decide) (by decide)]
          exact n4
        · obtain ⟨k1, k2, k3, k4⟩ := h1.ok n1.2 hpm f3 hg
          exact ⟨s', b, rfl, h1, ⟨f1.tr h3, h2, k1⟩, k2, k3, k4⟩
      have rounds : ∀ c u s x2 x3, 144 - totN s 12 < c → FV w1 A.2.1 u s → (∀ t ∈ A.2.1, H s 0 t) → V 138 [some (vR 30), some (vI 1), x2, x3] [] u 0 := by
        intro c
        induction c with
        | zero =>
          intro u s x2 x3 hc
          omega
        | succ c ihc =>
          intro u0 s x2 x3 hc hf0 hh0
          iterate 2 refine hV.go rfl ?_
          refine And.intro (fun hc => absurd (show (1 : Int32) = 0 from hc) (by decide)) (fun _ => ?_)
          have xloop : ∀ cx x, x + cx = 144 → ∀ u s' b x3, FV w1 A.2.1 u s' → (∀ t ∈ A.2.1, H s' 0 t) → RS s s' b x 0 → V 146 [some (vR 30), some (vI (b2i b)), some (vI (nI x)), x3] [] u 0 := by
            intro cx
            induction cx with
            | zero =>
              intro x hx u s' b x3 hf hh hrs
              iterate 3 refine hV.go rfl ?_
              refine And.intro (fun _ => ?_) (fun hc => absurd (show nI 144 ≤ nI x from nI_le (by omega) (by omega)) hc)
              refine hV.go rfl ?_
              rcases hrs with ⟨rfl, rfl, hall⟩ | ⟨rfl, hlt⟩
              · iterate 2 refine hV.go rfl ?_
                refine And.intro (fun _ => ?_) (fun hc => absurd rfl hc)
                refine hV.go rfl ?_
                exact ⟨fin u s' hf hh (P2.of hf.2.2.1 (fun a b ha hb => hall a b ha hb (by omega))), Nat.le_refl _⟩
              · have := totN_le hf.2.2.1 12 (Nat.le_refl _)
                exact ihc u s' _ _ (by omega) hf hh
            | succ cx ihx =>
              intro x hx u s' b x3 hf hh hrs
              iterate 3 refine hV.go rfl ?_
              refine And.intro (fun hc => ?_) (fun _ => ?_)
              · have hc : nI 144 ≤ nI x := hc
                rw [nI_leI (by omega) (by omega)] at hc
                omega
              have yloop : ∀ cy y, y + cy = 144 → ∀ u s' b, FV w1 A.2.1 u s' → (∀ t ∈ A.2.1, H s' 0 t) → RS s s' b x y → V 155 [some (vR 30), some (vI (b2i b)), some (vI (nI x)), some (vI (nI y))] [] u 0 := by
                intro cy
                induction cy with
                | zero =>
                  intro y hy u s' b hf hh hrs
                  iterate 3 refine hV.go rfl ?_
                  refine And.intro (fun _ => ?_) (fun hc => absurd (show nI 144 ≤ nI y from nI_le (by omega) (by omega)) hc)
                  iterate 2 refine hV.go rfl ?_
                  have := ihx (x + 1) (by omega) u s' b (some (vI (nI y))) hf hh (by
                    rcases hrs with ⟨h1, h2, h3⟩ | h
                    · exact Or.inl ⟨h1, h2, fun a c ha hc hac => h3 a c ha hc (by omega)⟩
                    · exact Or.inr h)
                  rw [← nI_inc x] at this
                  exact this
                | succ cy ihy =>
                  intro y hy u s' b hf hh hrs
                  have next : ∀ u s' b, FV w1 A.2.1 u s' → (∀ t ∈ A.2.1, H s' 0 t) → RS s s' b x (y + 1) → V 217 [some (vR 30), some (vI (b2i b)), some (vI (nI x)), some (vI (nI y))] [] u 0 := by
                    intro u s' b hf hh hrs
                    iterate 2 refine hV.go rfl ?_
                    have := ihy (y + 1) (by omega) u s' b hf hh hrs
                    rw [← nI_inc y] at this
                    exact this
                  iterate 3 refine hV.go rfl ?_
                  refine And.intro (fun hc => ?_) (fun _ => ?_)
                  · have hc : nI 144 ≤ nI y := hc
                    rw [nI_leI (by omega) (by omega)] at hc
                    omega
                  iterate 4 refine hV.go rfl ?_
                  refine Exists.intro x (And.intro rfl (And.intro (show x < 144 by omega) ?_))
                  refine topI (V := V) (hf.2.1.hasx (by omega)) ?_
                  refine hV.go rfl ?_
                  refine And.intro (fun hz => ?_) (fun hz => ?_)
                  · refine next u s' b hf hh (hrs.skip (fun h => ?_))
                    have hz : b2i (decide (x % 12 ∈ cO s' (x / 12))) = 0 := hz
                    rw [decide_eq_true h] at hz
                    exact absurd hz (by decide)
                  have hmx : x % 12 ∈ cO s' (x / 12) := of_decide_eq_true (b2i_ne.mp hz)
                  iterate 4 refine hV.go rfl ?_
                  refine Exists.intro y (And.intro rfl (And.intro (show y < 144 by omega) ?_))
                  refine topI (V := V) (hf.2.1.hasx (by omega)) ?_
                  refine hV.go rfl ?_
                  refine And.intro (fun hz => ?_) (fun hz => ?_)
                  · refine next u s' b hf hh (hrs.skip (fun _ h => ?_))
                    have hz : b2i (decide (y % 12 ∈ cO s' (y / 12))) = 0 := hz
                    rw [decide_eq_true h] at hz
                    exact absurd hz (by decide)
                  have hmy : y % 12 ∈ cO s' (y / 12) := of_decide_eq_true (b2i_ne.mp hz)
                  iterate 3 refine hV.go rfl ?_
                  refine And.intro (by decide) ?_
                  refine topI (V := V) (dv13 x (by omega)) ?_
                  refine hV.go rfl ?_
                  refine And.intro (fun hz => ?_) (fun hz => ?_)
                  · refine next u s' b hf hh (hrs.skip (fun _ _ h => ?_))
                    have hz : nI (x % 13) = nI 0 := hz
                    rw [nI_eq (by omega) (by omega)] at hz
                    exact (h hz).elim
                  iterate 3 refine hV.go rfl ?_
                  refine And.intro (by decide) ?_
                  refine topI (V := V) (dv13 y (by omega)) ?_
                  refine hV.go rfl ?_
                  refine And.intro (fun hz => ?_) (fun hz => ?_)
                  · refine next u s' b hf hh (hrs.skip (fun _ _ _ h => ?_))
                    have hz : nI (y % 13) = nI 0 := hz
                    rw [nI_eq (by omega) (by omega)] at hz
                    exact (h hz).elim
                  have gx := hf.2.2.2 (x / 12) (x % 12) (by omega) hmx
                  have gy := hf.2.2.2 (y / 12) (y % 12) (by omega) hmy
                  iterate 4 refine hV.go rfl ?_
                  refine And.intro (callP_r (m_behind (po := fun v z => v = none ∧ Rw z 36 0 (cmp (cT s' (x / 12) (x % 12)) (cT s' (y / 12) (y % 12))) ∧ Sm [36] u z) G (by omega) (by omega) (hf.2.1.rowx (by omega) hmx) (hf.2.1.rowx (by omega) hmy) (Gen.lw n2.2 gx).1 (fun z a b => ⟨rfl, a, b⟩)) (by decide) (by decide) (fun r z hp => ?_)) trivial
                  obtain ⟨rfl, hz1, hz2⟩ := hp
                  have hfz : FV w1 A.2.1 z s' := ⟨hf.1.tr (hz2.mono (by decide)), hf.2.1.cg (hz2 34 (by decide)).1 (hz2 35 (by decide)).1, hf.2.2⟩
                  iterate 2 refine hV.go rfl ?_
                  refine And.intro (callP_r (sift z s' _ hfz (Gen.mul gx gy) hz1) (by decide) (by decide) (fun r z2 hp => ?_)) trivial
                  obtain ⟨s2, b2, rfl, q1, q2, q3, q4, q5⟩ := hp
                  have hh2 : ∀ t ∈ A.2.1, H s2 0 t := fun t ht => q3.H 12 0 rfl t (hh t ht)
                  refine hV.go rfl ?_
                  cases b2 with
                  | true =>
                    refine And.intro (fun _ => ?_) (fun hc => absurd (show ¬ (1 : Int32) = 0 by decide) hc)
                    iterate 3 refine hV.go rfl ?_
                    refine next z2 s2 true q2 hh2 (Or.inr ⟨rfl, ?_⟩)
                    have := q5 rfl
                    rcases hrs with ⟨_, h2, _⟩ | h
                    · rw [← h2]
                      exact this
                    · omega
                  | false =>
                    refine And.intro (fun hc => absurd rfl (show ¬ (0 : Int32) = 0 from hc)) (fun _ => ?_)
                    have es : s2 = s' := by
                      rcases q1 with h | h
                      · exact h.2.1
                      · exact absurd h.1 (by decide)
                    subst es
                    have hrs2 := hrs.skip (fun _ _ _ _ => q4)
                    iterate 2 refine hV.go rfl ?_
                    cases b with
                    | true =>
                      refine And.intro (fun hc => absurd (show (1 : Int32) = 0 from hc) (by decide)) (fun _ => ?_)
                      iterate 3 refine hV.go rfl ?_
                      exact next z2 _ true q2 hh2 hrs2
                    | false =>
                      refine And.intro (fun _ => ?_) (fun hc => absurd rfl hc)
                      iterate 2 refine hV.go rfl ?_
                      exact next z2 _ false q2 hh2 hrs2
              iterate 2 refine hV.go rfl ?_
              exact yloop 144 0 rfl u s' b hf hh hrs
          iterate 4 refine hV.go rfl ?_
          exact xloop 144 0 rfl u0 s false x3 hf0 hh0 (Or.inl ⟨rfl, rfl, fun a c ha hc hac => by omega⟩)
      have tloop : ∀ c i : Nat, i + c = A.2.1.length → ∀ u s x2 x3, FV w1 A.2.1 u s → (∀ j t, j < i → A.2.1[j]? = some t → H s 0 t) → V 86 [some (vR 30), some (vI (nI i)), x2, x3] [] u 0 := by
        intro c
        induction c with
        | zero =>
          intro i hi u s x2 x3 hf hh
          iterate 3 refine hV.go rfl ?_
          refine topI (V := V) (show u.1 30 0 2 = nI A.2.1.length by rw [(hf.1 30 (by decide)).1, e30 2 (by decide) (by decide)]; exact n5) ?_
          refine hV.go rfl ?_
          refine And.intro (fun _ => ?_) (fun hc => absurd (show nI A.2.1.length ≤ nI i from nI_le (by omega) (by omega)) hc)
          iterate 2 refine hV.go rfl ?_
          refine rounds 145 u s x2 x3 (by omega) hf (fun t ht => ?_)
          obtain ⟨j, hj⟩ := List.mem_iff_getElem?.mp ht
          exact hh j t (by have := (List.getElem?_eq_some_iff.mp hj).1; omega) hj
        | succ c ih =>
          intro i hi u s x2 x3 hf hh
          have ht : A.2.1[i]? = some A.2.1[i] := List.getElem?_eq_getElem (by omega)
          have htm : A.2.1[i] ∈ A.2.1 := List.getElem_mem _
          iterate 3 refine hV.go rfl ?_
          refine topI (V := V) (show u.1 30 0 2 = nI A.2.1.length by rw [(hf.1 30 (by decide)).1, e30 2 (by decide) (by decide)]; exact n5) ?_
          refine hV.go rfl ?_
          refine And.intro (fun hc => ?_) (fun _ => ?_)
          · have hc : nI A.2.1.length ≤ nI i := hc
            rw [nI_leI (by omega) (by omega)] at hc
            omega
          have cp : ∀ c2 p : Nat, p + c2 = 12 → ∀ z, Sm [36] u z → (∀ q, q < p → z.1 36 0 q = nI (A.2.1[i] q)) → V 96 [some (vR 30), some (vI (nI i)), some (vI (nI p)), x3] [] z 0 := by
            intro c2
            induction c2 with
            | zero =>
              intro p hp z hs hz
              iterate 3 refine hV.go rfl ?_
              refine And.intro (fun _ => ?_) (fun hc => absurd (show nI 12 ≤ nI p from nI_le (by omega) (by omega)) hc)
              iterate 2 refine hV.go rfl ?_
              refine And.intro (callP_r (sift z s _ ⟨hf.1.tr (hs.mono (by decide)), hf.2.1.cg (hs 34 (by decide)).1 (hs 35 (by decide)).1, hf.2.2⟩ (Gen.of htm) (Rw.of (fun q hq => hz q (by omega)))) (by decide) (by decide) (fun r z2 hp => ?_)) trivial
              obtain ⟨s2, b2, rfl, q1, q2, q3, q4, q5⟩ := hp
              iterate 3 refine hV.go rfl ?_
              have := ih (i + 1) (by omega) z2 s2 (some (vI (nI p))) x3 q2 (fun j t hj hjt => by
                by_cases e : j = i
                · subst e
                  rw [ht] at hjt
                  cases hjt
                  exact q4
                · exact q3.H 12 0 rfl t (hh j t (by omega) hjt))
              rw [← nI_inc i] at this
              exact this
            | succ c2 ih2 =>
              intro p hp z hs hz
              iterate 3 refine hV.go rfl ?_
              refine And.intro (fun hc => ?_) (fun _ => ?_)
              · have hc : nI 12 ≤ nI p := hc
                rw [nI_leI (by omega) (by omega)] at hc
                omega
              iterate 8 refine hV.go rfl ?_
              refine topI (V := V) (nI_mul 12 i) ?_
              iterate 2 refine hV.go rfl ?_
              refine topI (V := V) (nI_add _ _) ?_
              refine hV.go rfl ?_
              refine Exists.intro (12 * i + p) (And.intro rfl (And.intro (show 12 * i + p < 120 by omega) ?_))
              refine topI (V := V) (show z.1 31 0 (12 * i + p) = nI (A.2.1[i] p) by rw [(hs 31 (by decide)).1, (hf.1 31 (by decide)).1, hw1, wI_ne (by omega), wI_ne (by omega)]; exact (n6 i _ ht p (by omega)).1) ?_
              refine hV.go rfl ?_
              refine Exists.intro p (And.intro rfl (And.intro (show p < 12 by omega) ?_))
              iterate 2 refine hV.go rfl ?_
              have := ih2 (p + 1) (by omega) (wI z 36 0 p (nI (A.2.1[i] p))) (Sm.wI (k := 36) hs (by decide)) (fun q hq => by
                by_cases e : q = p
                · rw [e, wI_eq]
                · rw [wI_ne (by omega)]
                  exact hz q (by omega))
              rw [← nI_inc p] at this
              exact this
          iterate 2 refine hV.go rfl ?_
          exact cp 12 0 rfl u Sm.rf (fun q hq => by omega)
      have kloop : ∀ c k : Nat, k + c = 12 → ∀ u x2, Sm [34, 35] w1 u → (∀ j q, j < k → q < 12 → u.1 34 0 (12 * j + q) = b2i (decide (j = q))) → (∀ j q, j < k → q < 12 → u.1 35 0 (12 * (12 * j + j) + q) = nI q) → V 20 [some (vR 30), some (vI (nI k)), x2, none] [] u 0 := by
        intro c
        induction c with
        | zero =>
          intro k hk u x2 hs h34 h35
          iterate 3 refine hV.go rfl ?_
          refine And.intro (fun _ => ?_) (fun hc => absurd (show nI 12 ≤ nI k from nI_le (by omega) (by omega)) hc)
          iterate 2 refine hV.go rfl ?_
          refine tloop A.2.1.length 0 (by omega) u cs0 x2 none ⟨hs.mono (by decide), fun j q hj hq => ⟨fun h => ?_, fun h => ?_⟩, cs0_W, fun j p hj hp => ?_⟩ (fun j t hj => by omega)
          · rw [cs0_O, List.mem_singleton] at h
            subst h
            refine ⟨?_, fun x hx => ?_⟩
            · rw [h34 q q (by omega) hq, decide_eq_true rfl]
              rfl
            · rw [h35 q x (by omega) hx, cs0_T]
              rfl
          · rw [cs0_O, List.mem_singleton] at h
            rw [h34 j q (by omega) hq, decide_eq_false (fun e => h e.symm)]
            rfl
          · rw [cs0_T]
            exact Gen.id _
        | succ c ih =>
          intro k hk u x2 hs h34 h35
          iterate 3 refine hV.go rfl ?_
          refine And.intro (fun hc => ?_) (fun _ => ?_)
          · have hc : nI 12 ≤ nI k := hc
            rw [nI_leI (by omega) (by omega)] at hc
            omega
          have iloop : ∀ c2 i : Nat, i + c2 = 12 → ∀ u, Sm [34, 35] w1 u → (∀ j q, j < k ∨ (j = k ∧ q < i) → q < 12 → u.1 34 0 (12 * j + q) = b2i (decide (j = q))) → (∀ j q, j < k ∨ (j = k ∧ q < i) → q < 12 → u.1 35 0 (12 * (12 * j + j) + q) = nI q) → V 28 [some (vR 30), some (vI (nI k)), some (vI (nI i)), none] [] u 0 := by
            intro c2
            induction c2 with
            | zero =>
              intro i hi u hs h34 h35
              iterate 3 refine hV.go rfl ?_
              refine And.intro (fun _ => ?_) (fun hc => absurd (show nI 12 ≤ nI i from nI_le (by omega) (by omega)) hc)
              iterate 2 refine hV.go rfl ?_
              have := ih (k + 1) (by omega) u (some (vI (nI i))) hs (fun j q hj hq => h34 j q (by omega) hq) (fun j q hj hq => h35 j q (by omega) hq)
              rw [← nI_inc k] at this
              exact this
            | succ c2 ih2 =>
              intro i hi u hs h34 h35
              iterate 3 refine hV.go rfl ?_
              refine And.intro (fun hc => ?_) (fun _ => ?_)
              · have hc : nI 12 ≤ nI i := hc
                rw [nI_leI (by omega) (by omega)] at hc
                omega
              have st : V 54 [some (vR 30), some (vI (nI k)), some (vI (nI i)), none] [vI (b2i (decide (k = i))), vI (nI (12 * k + i)), vR 34] u 0 := by
                refine hV.go rfl ?_
                refine Exists.intro (12 * k + i) (And.intro rfl (And.intro (show 12 * k + i < 144 by omega) ?_))
                iterate 6 refine hV.go rfl ?_
                refine topI (V := V) (nI_mul 12 k) ?_
                iterate 2 refine hV.go rfl ?_
                refine topI (V := V) (nI_add _ _) ?_
                refine hV.go rfl ?_
                refine topI (V := V) (nI_mul 12 _) ?_
                iterate 2 refine hV.go rfl ?_
                refine topI (V := V) (nI_add _ _) ?_
                iterate 2 refine hV.go rfl ?_
                refine Exists.intro (12 * (12 * k + k) + i) (And.intro rfl (And.intro (show 12 * (12 * k + k) + i < 1728 by omega) ?_))
                iterate 2 refine hV.go rfl ?_
                have := ih2 (i + 1) (by omega) (wI (wI u 34 0 (12 * k + i) (b2i (decide (k = i)))) 35 0 (12 * (12 * k + k) + i) (nI i)) (Sm.wI (k := 35) (Sm.wI (k := 34) hs (by decide)) (by decide)) (fun j q hj hq => by
                  rw [wI_ne (by omega)]
                  by_cases e : j = k ∧ q = i
                  · rw [e.1, e.2, wI_eq]
                  · rw [wI_ne (by omega)]
                    exact h34 j q (by omega) hq) (fun j q hj hq => by
                  by_cases e : j = k ∧ q = i
                  · rw [e.1, e.2, wI_eq]
                  · rw [wI_ne (by omega), wI_ne (by omega)]
                    exact h35 j q (by omega) hq)
                rw [← nI_inc i, ← (show vp_nar FieldType.boolean (b2i (decide (k = i))) = b2i (decide (k = i)) by cases decide (k = i) <;> rfl)] at this
                exact this
              iterate 5 refine hV.go rfl ?_
              refine topI (V := V) (nI_mul 12 k) ?_
              iterate 2 refine hV.go rfl ?_
              refine topI (V := V) (nI_add _ _) ?_
              iterate 3 refine hV.go rfl ?_
              refine And.intro (fun hc => ?_) (fun hc => ?_)
              · have hc : ¬ nI k = nI i := hc
                rw [nI_eq (by omega) (by omega)] at hc
                rw [decide_eq_false hc] at st
                refine hV.go rfl ?_
                exact st
              · have hc : nI k = nI i := Classical.not_not.mp hc
                rw [nI_eq (by omega) (by omega)] at hc
                rw [decide_eq_true hc] at st
                iterate 2 refine hV.go rfl ?_
                exact st
          iterate 2 refine hV.go rfl ?_
          exact iloop 12 0 rfl u hs (fun j q hj hq => h34 j q (by omega) hq) (fun j q hj hq => h35 j q (by omega) hq)
      iterate 2 refine hV.go rfl ?_
      exact kloop 12 0 rfl w1 none Sm.rf (fun j q hj => by omega) (fun j q hj => by omega)
    exact key _ rfl
  · refine hV.go rfl ?_
    have hc : ¬ w.1 30 0 7 = 0 := hc
    exact ⟨hpo w hw (hr.elim (fun z => (hc z).elim) (fun z => z.1)) rfl Sm.rf, Nat.le_refl _⟩
end
