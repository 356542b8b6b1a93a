/-! within -/
/-- the least of the first i moves' distances, and one -/
def LI (mv : List (Nat → Nat)) (f : Nat → Nat) (K i : Nat) (x : Int32) : Prop := (x = -1 ∧ ∀ j m, j < i → mv[j]? = some m → ∀ e, e ≤ K → ¬ Dst mv (cmp f m) e) ∨ ∃ e, e ≤ K ∧ x = nI (e + 1) ∧ (∃ j m, j < i ∧ mv[j]? = some m ∧ Dst mv (cmp f m) e) ∧ ∀ j m, j < i → mv[j]? = some m → ∀ e', Dst mv (cmp f m) e' → e ≤ e'
theorem LI.done {mv : List (Nat → Nat)} (hs : Sym mv) {f : Nat → Nat} {K : Nat} {x : Int32} (h : LI mv f K mv.length x) (h0 : f ≠ idp) : WT mv f (K + 1) x := by
  have near : ∀ d, Dst mv f d → ∃ d', d = d' + 1 ∧ ∃ (j : Nat) (m : Nat → Nat), j < mv.length ∧ mv[j]? = some m ∧ Dst mv (cmp f m) d' := by
    intro d hd
    cases d with
    | zero => exact (h0 hd.1).elim
    | succ d =>
      obtain ⟨m, hm, hD⟩ := hd.near hs
      obtain ⟨j, hj⟩ := List.getElem?_of_mem hm
      exact ⟨d, rfl, j, m, (List.getElem?_eq_some_iff.mp hj).1, hj, hD⟩
  rcases h with ⟨rfl, h⟩ | ⟨e, he, rfl, ⟨j, m, hj, hm, hD⟩, hmin⟩
  · refine Or.inr ⟨fun d hd hD => ?_, rfl⟩
    obtain ⟨d', rfl, j, m, hj, hm, hD'⟩ := near d hD
    exact h j m hj hm d' (by omega) hD'
  · refine Or.inl ⟨e + 1, by omega, ⟨hs.up (List.mem_of_getElem? hm) hD.1, fun n hn hr => ?_⟩, rfl⟩
    obtain ⟨d, hdn, hd⟩ := Dst.ex hr
    obtain ⟨d', rfl, j', m', hj', hm', hD'⟩ := near d hd
    have := hmin j' m' hj' hm' d' hD'
    omega
theorem LI.step {mv : List (Nat → Nat)} {f m : Nat → Nat} {K i : Nat} {x y : Int32} (h : LI mv f K i x) (hm : mv[i]? = some m) (hw : WT mv (cmp f m) K y) (hK : K < 2000) :
    (y = -1 → LI mv f K (i + 1) x) ∧ (y ≠ -1 → x = -1 → LI mv f K (i + 1) (y + 1)) ∧ (y ≠ -1 → x ≠ -1 → y + 1 < x → LI mv f K (i + 1) (y + 1)) ∧ (y ≠ -1 → x ≠ -1 → ¬ y + 1 < x → LI mv f K (i + 1) x) := by
  have split : ∀ {P : Prop} {j : Nat} {m' : Nat → Nat}, j < i + 1 → mv[j]? = some m' → (j < i → P) → (m' = m → P) → P := by
    intro P j m' hj hm' h1 h2
    by_cases e : j = i
    · subst e
      rw [hm] at hm'
      exact h2 (Option.some.inj hm').symm
    · exact h1 (by omega)
  rcases hw with ⟨d, hd, hD, rfl⟩ | ⟨hno, rfl⟩
  · refine ⟨fun z => (nI_m1 (by omega) z).elim, fun _ hx => ?_, fun _ hx hlt => ?_, fun _ hx hlt => ?_⟩
    · rcases h with ⟨-, h⟩ | ⟨e, he, rfl, -⟩
      · refine Or.inr ⟨d, hd, nI_1 d, ⟨i, m, by omega, hm, hD⟩, fun j m' hj hm' e' hD' => split hj hm' (fun hj => ?_) (fun e => ?_)⟩
        · by_cases z : e' ≤ K
          · exact (h j m' hj hm' e' z hD').elim
          · omega
        · rw [e] at hD'
          rw [hD.uniq hD']
          exact Nat.le_refl _
      · exact (nI_m1 (by omega) hx).elim
    · rcases h with ⟨rfl, -⟩ | ⟨e, he, rfl, h1, h2⟩
      · exact (hx rfl).elim
      · rw [nI_1, nI_ltI (by omega) (by omega)] at hlt
        refine Or.inr ⟨d, hd, nI_1 d, ⟨i, m, by omega, hm, hD⟩, fun j m' hj hm' e' hD' => split hj hm' (fun hj => ?_) (fun e => ?_)⟩
        · have := h2 j m' hj hm' e' hD'
          omega
        · rw [e] at hD'
          rw [hD.uniq hD']
          exact Nat.le_refl _
    · rcases h with ⟨rfl, -⟩ | ⟨e, he, rfl, ⟨j0, m0, a1, a2, a3⟩, h2⟩
      · exact (hx rfl).elim
      · rw [nI_1, nI_ltI (by omega) (by omega)] at hlt
        refine Or.inr ⟨e, he, rfl, ⟨j0, m0, by omega, a2, a3⟩, fun j m' hj hm' e' hD' => split hj hm' (fun hj => h2 j m' hj hm' e' hD') (fun z => ?_)⟩
        rw [z] at hD'
        have := hD.uniq hD'
        omega
  · refine ⟨fun _ => ?_, fun z => (z rfl).elim, fun z => (z rfl).elim, fun z => (z rfl).elim⟩
    rcases h with ⟨rfl, h⟩ | ⟨e, he, rfl, ⟨j0, m0, a1, a2, a3⟩, h2⟩
    · refine Or.inl ⟨rfl, fun j m' hj hm' e' he' => split hj hm' (fun hj => h j m' hj hm' e' he') (fun z => ?_)⟩
      rw [z]
      exact hno e' he'
    · refine Or.inr ⟨e, he, rfl, ⟨j0, m0, by omega, a2, a3⟩, fun j m' hj hm' e' hD' => split hj hm' (fun hj => h2 j m' hj hm' e' hD') (fun z => ?_)⟩
      rw [z] at hD'
      by_cases q : e' ≤ K
      · exact (hno e' q hD').elim
      · omega
section
variable {l : Launch} {E : En}
theorem c_leastFrom {w : Wd} {mv : List (Nat → Nat)} {B : BL} {sl : Nat → Nat} {rad : Nat} (G : GC l E) (hmv : MvW w mv) (hsym : Sym mv) (hb : BaW w B sl) (hH : HT B sl) (hB : BaS mv rad B) (hrad : rad ≤ 1500) :
    ∀ more, more ≤ 2 → ∀ f, Pm f → Ctr l E (3 + more) 0 mX4_leastFrom [vR 3, vR 4, vI (nI mv.length), vJ (rw f), vI (nI more)] w (fun r u => u = w ∧ ∃ x, r = some (vI x) ∧ WT mv f (rad + more) x) noX := by
  intro more
  induction more with
  | zero =>
    intro hm2 f hf
    refine Ctr.of (tw := []) G.1 G.2 oX4_ok pgX4_leastFrom rfl (by decide) rfl rfl (Nat.le_of_ble_eq_true rfl) ?_
    intro V hV
    iterate 3 refine hV.go rfl ?_
    refine And.intro (callP_r (c_farOf (po := fun v z => z = w ∧ ((∃ e, v = some (vI (nI e)) ∧ (f, e) ∈ B) ∨ (v = some (vI (-1)) ∧ ∀ x ∈ B, x.1 ≠ f))) G hb hH hf (fun e he => ⟨rfl, Or.inl ⟨e, rfl, he⟩⟩) (fun h => ⟨rfl, Or.inr ⟨rfl, h⟩⟩)) (by decide) (by decide) (fun r z hq => ?_)) trivial
    obtain ⟨rfl, ⟨d, rfl, hm⟩ | ⟨rfl, hno⟩⟩ := hq
    · have hd := hB.2.2.2.2 _ hm
      iterate 4 refine hV.go rfl ?_
      refine And.intro (fun _ => ?_) (fun hc => ?_)
      · repeat refine hV.go rfl ?_
        exact ⟨⟨rfl, _, rfl, Or.inl ⟨d, hd, hB.1 _ hm, rfl⟩⟩, Nat.le_refl _⟩
      · have hc : nI d = -1 := Classical.not_not.mp hc
        have hd : d ≤ rad := hd
        exact (nI_m1 (by omega) hc).elim
    · iterate 4 refine hV.go rfl ?_
      refine And.intro (fun hc => absurd rfl hc) (fun _ => ?_)
      iterate 2 refine hV.go rfl ?_
      refine And.intro (fun hc => absurd (show nI 0 < nI 0 from hc) (by decide)) (fun _ => ?_)
      repeat refine hV.go rfl ?_
      refine ⟨⟨rfl, _, rfl, Or.inr ⟨fun d hd hD => ?_, rfl⟩⟩, Nat.le_refl _⟩
      obtain ⟨x, hx, e⟩ := hB.2.1 d f hd hD.1
      exact hno x hx e
  | succ more ih =>
    intro hm2 f hf
    have ih := ih (by omega)
    refine Ctr.of (tw := []) G.1 G.2 oX4_ok pgX4_leastFrom rfl (by decide) rfl rfl (Nat.le_of_ble_eq_true rfl) ?_
    intro V hV
    have hl10 := hmv.1
    have loop : f ≠ idp → ∀ c i : Nat, i + c = mv.length → ∀ (x : Int32) (x8 : Option AV), LI mv f (rad + more) i x → V 24 [some (vR 3), some (vR 4), some (vI (nI mv.length)), some (vJ (rw f)), none, some (vI (nI (more + 1))), some (vI x), some (vI (nI i)), x8] [] w 0 := by
      intro hfi c
      induction c with
      | zero =>
        intro i hi x x8 hI
        have e : i = mv.length := by omega
        subst e
        iterate 3 refine hV.go rfl ?_
        refine And.intro (fun _ => ?_) (fun hc => ?_)
        · repeat refine hV.go rfl ?_
          exact ⟨⟨rfl, _, rfl, hI.done hsym hfi⟩, Nat.le_refl _⟩
        · exact absurd (show nI mv.length ≤ nI mv.length from nI_le (by omega) (by omega)) hc
      | succ c ihc =>
        intro i hi x x8 hI
        have hm : mv[i]? = some mv[i] := List.getElem?_eq_getElem (by omega)
        have hpm := hmv.2.1 _ (List.mem_of_getElem? hm)
        iterate 3 refine hV.go rfl ?_
        refine And.intro (fun hc => ?_) (fun _ => ?_)
        · have hc : nI mv.length ≤ nI i := hc
          rw [nI_leI (by omega) (by omega)] at hc
          omega
        iterate 7 refine hV.go rfl ?_
        refine Exists.intro i (And.intro rfl (And.intro (show i < 10 by omega) ?_))
        refine topJ (V := V) (hmv.2.2 _ _ hm) ?_
        refine hV.go rfl ?_
        refine And.intro (callP_v (c_then G hf.1 hpm.lt16 _) (by show 1 < 3 + (more + 1); omega) (by decide) ?_) trivial
        iterate 3 refine hV.go rfl ?_
        refine topI (V := V) (nI_pred more) ?_
        refine hV.go rfl ?_
        refine And.intro (callP_r (ih (cmp f mv[i]) (hf.cmp hpm)) (by show 3 + more < 3 + (more + 1); omega) (by decide) (fun r z hq => ?_)) trivial
        obtain ⟨rfl, y, rfl, hW⟩ := hq
        obtain ⟨s1, s2, s3, s4⟩ := hI.step hm hW (by omega)
        have again : ∀ x', LI mv f (rad + more) (i + 1) x' → V 77 [some (vR 3), some (vR 4), some (vI (nI mv.length)), some (vJ (rw f)), none, some (vI (nI (more + 1))), some (vI x'), some (vI (nI i)), some (vI y)] [] z 0 := by
          intro x' hI'
          iterate 2 refine hV.go rfl ?_
          have := ihc (i + 1) (by omega) x' (some (vI y)) hI'
          rw [← nI_inc i] at this
          exact this
        iterate 4 refine hV.go rfl ?_
        refine And.intro (fun hc => again x (s1 hc)) (fun hy => ?_)
        iterate 3 refine hV.go rfl ?_
        refine And.intro (fun hx => ?_) (fun hx => ?_)
        · iterate 4 refine hV.go rfl ?_
          exact again _ (s2 hy hx)
        · iterate 5 refine hV.go rfl ?_
          refine And.intro (fun hc => ?_) (fun hc => ?_)
          · have hc : x ≤ y + 1 := hc
            exact again _ (s4 hy hx (fun z => absurd (Int32.lt_of_lt_of_le z hc) Int32.lt_irrefl))
          · have hc : ¬ x ≤ y + 1 := hc
            iterate 4 refine hV.go rfl ?_
            exact again _ (s3 hy hx (Int32.not_le.mp hc))
    iterate 3 refine hV.go rfl ?_
    refine And.intro (callP_r (c_farOf (po := fun v z => z = w ∧ ((∃ e, v = some (vI (nI e)) ∧ (f, e) ∈ B) ∨ (v = some (vI (-1)) ∧ ∀ x ∈ B, x.1 ≠ f))) G hb hH hf (fun e he => ⟨rfl, Or.inl ⟨e, rfl, he⟩⟩) (fun h => ⟨rfl, Or.inr ⟨rfl, h⟩⟩)) (by show 2 < 3 + (more + 1); omega) (by decide) (fun r z hq => ?_)) trivial
    obtain ⟨rfl, ⟨d, rfl, hm⟩ | ⟨rfl, hno⟩⟩ := hq
    · have hd : d ≤ rad := hB.2.2.2.2 _ hm
      iterate 4 refine hV.go rfl ?_
      refine And.intro (fun _ => ?_) (fun hc => ?_)
      · repeat refine hV.go rfl ?_
        exact ⟨⟨rfl, _, rfl, Or.inl ⟨d, by omega, hB.1 _ hm, rfl⟩⟩, Nat.le_refl _⟩
      · have hc : nI d = -1 := Classical.not_not.mp hc
        exact (nI_m1 (by omega) hc).elim
    · have hfi : f ≠ idp := fun e => by
        obtain ⟨x, hx, e2⟩ := hB.2.1 0 f (Nat.zero_le _) e
        exact hno x hx e2
      iterate 4 refine hV.go rfl ?_
      refine And.intro (fun hc => absurd rfl hc) (fun _ => ?_)
      iterate 2 refine hV.go rfl ?_
      refine And.intro (fun _ => ?_) (fun hc => absurd (show nI 0 < nI (more + 1) from nI_lt (by omega) (by omega)) hc)
      iterate 2 refine hV.go rfl ?_
      exact loop hfi _ 0 (Nat.zero_add _) (-1) _ (Or.inl ⟨rfl, fun j m hj => by omega⟩)
theorem c_within {w : Wd} {A : AS} {x : Int32} {po : Option AV → Wd → Prop} {xo : String → Wd → Prop} (G : GC l E) (hw : KI w A) (h1 : ∀ k, k ≤ 4 → x = nI k → ∀ u y, WT (mvs A.2.1) A.2.2.1 k y → KI u A → Sm clK w u → po (some (vI y)) u) (h2 : (x < 0 ∨ nI 5 ≤ x) → xo xIA w) : Ctr l E 6 1 mX4_within [vR 0, vI x] w po xo := by
  refine Ctr.of (tw := tX4_within) G.1 G.2 oX4_ok pgX4_within twX4_within (by decide) rfl rfl (Nat.le_of_ble_eq_true rfl) ?_
  intro V hV
  have hp : ∀ t ∈ A.2.1, Pm t := fun t ht => (hw.1.1.2.1.2 t ht).1
  iterate 2 refine hV.go rfl ?_
  refine And.intro (fun hc => ?_) (fun hc => ?_)
  · refine hV.go rfl ?_
    exact ⟨h2 (Or.inl hc), Nat.le_refl _⟩
  have hc : ¬ x < 0 := hc
  iterate 3 refine hV.go rfl ?_
  rcases bnd x (n := 5) (by decide) with ⟨k, hk, rfl⟩ | hb
  · refine And.intro (fun _ => ?_) (fun hc2 => absurd (show nI k ≤ nI 4 from nI_le (by omega) (by decide)) hc2)
    iterate 2 refine hV.go rfl ?_
    refine And.intro (callP_r (c_fillBall (po := fun v z => v = none ∧ KI z A ∧ z.1 0 0 10 = 1 ∧ Sm clK w z) G hw (fun u a b c => ⟨rfl, a, b, c⟩)) (by decide) (by decide) (fun r u hq => ?_)) trivial
    obtain ⟨rfl, a, b, c⟩ := hq
    obtain ⟨B, sl, k1, k2, k3⟩ := a.bk b
    obtain ⟨⟨n1, n2, n3, n4, n5, n6⟩, mv, -⟩ := a.1
    iterate 7 refine hV.go rfl ?_
    refine topI (V := V) n5 ?_
    refine hV.go rfl ?_
    refine topI (V := V) (show (2 : Int32) * nI A.2.1.length = nI (mvs A.2.1).length by rw [mvs_len]; exact (Int32.ofNat_mul 2 _).symm) ?_
    iterate 2 refine hV.go rfl ?_
    refine topJ (V := V) n6 ?_
    iterate 2 refine hV.go rfl ?_
    refine And.intro (callP_r (c_leastFrom G mv (mvs_sym hp) k1 k2 k3 (radf_le _) 2 (by decide) A.2.2.1 n3.1) (by decide) (by decide) (fun r z hq => ?_)) trivial
    obtain ⟨rfl, y, rfl, hW⟩ := hq
    have hr2 : 2 ≤ radf A.2.1 := by
      by_cases z : oN A.2.1 ≤ 1500
      · rw [radf_few z]; decide
      · rw [radf_many z]; decide
    have hr3 := radf_le A.2.1
    iterate 4 refine hV.go rfl ?_
    refine And.intro (fun hc2 => ?_) (fun hc2 => ?_)
    · have hc2 : nI k < y := hc2
      repeat refine hV.go rfl ?_
      refine ⟨h1 k (by omega) rfl _ _ (Or.inr ⟨fun d hd hD => ?_, rfl⟩) a c, by decide⟩
      rcases hW with ⟨d', a', b', rfl⟩ | ⟨a', rfl⟩
      · rw [nI_ltI (by omega) (by omega)] at hc2
        rw [hD.uniq b'] at hd
        omega
      · exact a' d (by omega) hD
    · have hc2 : ¬ nI k < y := hc2
      repeat refine hV.go rfl ?_
      refine ⟨h1 k (by omega) rfl _ _ ?_ a c, by decide⟩
      rcases hW with ⟨d', a', b', rfl⟩ | ⟨a', rfl⟩
      · rw [nI_ltI (by omega) (by omega)] at hc2
        exact Or.inl ⟨d', by omega, b', rfl⟩
      · exact Or.inr ⟨fun d hd => a' d (by omega), rfl⟩
  · refine And.intro (fun hc2 => ?_) (fun _ => ?_)
    · have hc2 : x ≤ nI 4 := hc2
      rcases hb with hb | hb
      · exact absurd hb hc
      · have := Int32.le_trans hb hc2
        rw [nI_leI (by decide) (by decide)] at this
        omega
    · refine hV.go rfl ?_
      exact ⟨h2 hb, Nat.le_refl _⟩
end
