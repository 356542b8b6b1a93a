section
variable {l : Launch} {E : En}
theorem mn_if {a b : Nat} (ha : a < 2 ^ 31) (hb : b < 2 ^ 31) : (if nI b < nI a then nI b else nI a) = nI (min a b) := by
  by_cases h : b < a
  · rw [if_pos (nI_lt h ha), Nat.min_eq_right (by omega)]
  · rw [if_neg (by rw [nI_ltI hb ha]; exact h), Nat.min_eq_left (by omega)]
theorem mx_if {a b : Nat} (ha : a < 2 ^ 31) (hb : b < 2 ^ 31) : (if nI a < nI b then nI b else nI a) = nI (max a b) := by
  by_cases h : a < b
  · rw [if_pos (nI_lt h hb), Nat.max_eq_right (by omega)]
  · rw [if_neg (by rw [nI_ltI ha hb]; exact h), Nat.max_eq_left (by omega)]
theorem c_unite {w : Wd} {g : Nat → Nat} {x y : Nat} {po : Option AV → Wd → Prop} (G : GC l E) (hg : ClW w g) (hx : x < 12) (hy : y < 12) (hpo : ∀ u, ClW u (uni g x y) → Sm [6] w u → po (some (vI (b2i (decide (g x ≠ g y))))) u) : Ctr l E 2 0 mX4_uniteClasses [vR 0, vI (nI x), vI (nI y)] w po noX := by
  refine Ctr.ofM G.1 G.2 pgX4_uniteClasses (by decide) rfl rfl (Nat.le_of_ble_eq_true rfl) ?_
  intro V hV hmin hmax
  have gx := hg x hx
  have gy := hg y hy
  have hM : max (g x) (g y) < 12 := by omega
  have hm : min (g x) (g y) < 12 := by omega
  have loop : ∀ c i : Nat, i + c = 12 → ∀ u, Sm [6] w u → (∀ p, p < 12 → u.1 6 0 p = nI (if p < i then uni g x y p else g p)) → V 36 [some (vR 0), some (vI (nI x)), some (vI (nI y)), some (vI (nI (min (g x) (g y)))), some (vI (nI (max (g x) (g y)))), some (vI (nI i))] [] u 0 := by
    intro c
    induction c with
    | zero =>
      intro i hi u hs hu
      iterate 3 refine hV.go rfl ?_
      refine And.intro (fun _ => ?_) (fun hc => absurd (show nI 12 ≤ nI i from nI_le (by omega) (by omega)) hc)
      have hfin : ClW u (uni g x y) := fun p hp => by
        have := hu p hp
        rw [if_pos (by omega)] at this
        refine ⟨this, ?_⟩
        rw [uni_def]
        split
        · exact hm
        · exact (hg p hp).2
      iterate 3 refine hV.go rfl ?_
      refine And.intro (fun hc => ?_) (fun hc => ?_)
      · have hc : nI (min (g x) (g y)) = nI (max (g x) (g y)) := hc
        rw [nI_eq (by omega) (by omega)] at hc
        repeat refine hV.go rfl ?_
        have := hpo u hfin hs
        rw [decide_eq_false (by omega)] at this
        exact ⟨Or.inl rfl, this, Nat.le_refl _⟩
      · have hc : ¬ nI (min (g x) (g y)) = nI (max (g x) (g y)) := hc
        rw [nI_eq (by omega) (by omega)] at hc
        repeat refine hV.go rfl ?_
        have := hpo u hfin hs
        rw [decide_eq_true (by omega)] at this
        exact ⟨Or.inr rfl, this, Nat.le_refl _⟩
    | succ c ih =>
      intro i hi u hs hu
      have hui := hu i (by omega)
      rw [if_neg (by omega)] at hui
      have hgi := (hg i (by omega)).2
      iterate 3 refine hV.go rfl ?_
      refine And.intro (fun hc => ?_) (fun _ => ?_)
      · have hc : nI 12 ≤ nI i := hc
        rw [nI_leI (by omega) (by omega)] at hc
        omega
      have again : ∀ u', Sm [6] w u' → (∀ p, p < 12 → u'.1 6 0 p = nI (if p < i + 1 then uni g x y p else g p)) → V 63 [some (vR 0), some (vI (nI x)), some (vI (nI y)), some (vI (nI (min (g x) (g y)))), some (vI (nI (max (g x) (g y)))), some (vI (nI i))] [] u' 0 := by
        intro u' hs' hu'
        iterate 2 refine hV.go rfl ?_
        have := ih (i + 1) (by omega) u' hs' hu'
        rw [← nI_inc i] at this
        exact this
      iterate 4 refine hV.go rfl ?_
      refine Exists.intro i (And.intro rfl (And.intro (show i < 12 by omega) ?_))
      refine topI (V := V) hui ?_
      iterate 2 refine hV.go rfl ?_
      refine And.intro (fun hc => ?_) (fun hc => ?_)
      · have hc : ¬ nI (g i) = nI (max (g x) (g y)) := hc
        rw [nI_eq (by omega) (by omega)] at hc
        refine again u hs (fun p hp => ?_)
        rw [hu p hp]
        by_cases e : p = i
        · subst e
          rw [if_neg (by omega), if_pos (by omega), uni_def, if_neg hc]
        · by_cases z : p < i
          · rw [if_pos z, if_pos (by omega)]
          · rw [if_neg z, if_neg (by omega)]
      · have hc : nI (g i) = nI (max (g x) (g y)) := Classical.not_not.mp hc
        rw [nI_eq (by omega) (by omega)] at hc
        iterate 5 refine hV.go rfl ?_
        refine Exists.intro i (And.intro rfl (And.intro (show i < 12 by omega) ?_))
        refine again _ (Sm.wI (k := 6) hs (by decide)) (fun p hp => ?_)
        rw [wI_get]
        by_cases e : p = i
        · subst e
          rw [if_pos ⟨rfl, rfl, rfl⟩, if_pos (by omega), uni_def, if_pos hc]
        · rw [if_neg (by omega), hu p hp]
          by_cases z : p < i
          · rw [if_pos z, if_pos (by omega)]
          · rw [if_neg z, if_neg (by omega)]
  iterate 4 refine hV.go rfl ?_
  refine Exists.intro x (And.intro rfl (And.intro hx ?_))
  refine topI (V := V) gx.1 ?_
  iterate 4 refine hV.go rfl ?_
  refine Exists.intro y (And.intro rfl (And.intro hy ?_))
  refine topI (V := V) gy.1 ?_
  refine hmin _ _ _ _ _ _ _ (by decide +kernel) (by decide) (by decide) ?_
  refine topI (V := V) (mn_if (by omega) (by omega)) ?_
  iterate 5 refine hV.go rfl ?_
  refine Exists.intro x (And.intro rfl (And.intro hx ?_))
  refine topI (V := V) gx.1 ?_
  iterate 4 refine hV.go rfl ?_
  refine Exists.intro y (And.intro rfl (And.intro hy ?_))
  refine topI (V := V) gy.1 ?_
  refine hmax _ _ _ _ _ _ _ (by decide +kernel) (by decide) (by decide) ?_
  refine topI (V := V) (mx_if (by omega) (by omega)) ?_
  iterate 3 refine hV.go rfl ?_
  exact loop 12 0 rfl w Sm.rf (fun p hp => by rw [if_neg (by omega)]; exact (hg p hp).1)
/-- what a round over some turns does -/
def CR (n : Nat) (g g' : Nat → Nat) (ch : Bool) (t : Nat → Nat) : Prop := (∀ x y, g x = g y → g' x = g' y) ∧ ((ch = false ∧ g' = g ∧ ∀ p, p < n → g (t p) = g (t (g p))) ∨ (ch = true ∧ ncl g' < ncl g))
theorem c_carry {w : Wd} {n a b : Nat} {ts : List (Nat → Nat)} {g t : Nat → Nat} {po : Option AV → Wd → Prop} (G : GC l E) (h6 : w.1 0 0 6 = nI n) (hn : n ≤ 12) (ht : t ∈ ts) (hL : Lw n t) (hg : ClW w g) (hB : BI n ts a b g) (hpo : ∀ u g' ch, ClW u g' → BI n ts a b g' → CR n g g' ch t → Sm [6] w u → po (some (vI (b2i ch))) u) : Ctr l E 3 0 mX4_carryClasses [vR 0, vJ (rw t)] w po noX := by
  refine Ctr.of (tw := []) G.1 G.2 oX4_ok pgX4_carryClasses rfl (by decide) rfl rfl (Nat.le_of_ble_eq_true rfl) ?_
  intro V hV
  have loop : ∀ c i : Nat, i + c = n → ∀ u g' ch, Sm [6] w u → ClW u g' → BI n ts a b g' → (∀ x y, g x = g y → g' x = g' y) → ((ch = false ∧ g' = g ∧ ∀ p, p < i → g (t p) = g (t (g p))) ∨ (ch = true ∧ ncl g' < ncl g)) → V 5 [some (vR 0), some (vJ (rw t)), none, some (vI (b2i ch)), some (vI (nI i))] [] u 0 := by
    intro c
    induction c with
    | zero =>
      intro i hi u g' ch hs hc hb hk hor
      iterate 3 refine hV.go rfl ?_
      refine topI (V := V) (show u.1 0 0 6 = nI n by rw [(hs 0 (by decide)).1]; exact h6) ?_
      refine hV.go rfl ?_
      refine And.intro (fun _ => ?_) (fun hc => absurd (show nI n ≤ nI i from nI_le (by omega) (by omega)) hc)
      repeat refine hV.go rfl ?_
      have e : i = n := by omega
      subst e
      exact ⟨b2i_01 _, hpo u g' ch hc hb ⟨hk, hor⟩ hs, Nat.le_refl _⟩
    | succ c ih =>
      intro i hi u g' ch hs hc hb hk hor
      have hgi := hc i (by omega)
      have hti := hL.lt (show i < n by omega)
      have hgl : g' i < n := by have := (hb.1 i (by omega)).1; omega
      have htg := hL.lt hgl
      iterate 3 refine hV.go rfl ?_
      refine topI (V := V) (show u.1 0 0 6 = nI n by rw [(hs 0 (by decide)).1]; exact h6) ?_
      refine hV.go rfl ?_
      refine And.intro (fun hc => ?_) (fun _ => ?_)
      · have hc : nI n ≤ nI i := hc
        rw [nI_leI (by omega) (by omega)] at hc
        omega
      iterate 5 refine hV.go rfl ?_
      refine And.intro (callP_v (c_at G hL.1.lt16 (by omega) _) (by decide) (by decide) ?_) trivial
      iterate 5 refine hV.go rfl ?_
      refine Exists.intro i (And.intro rfl (And.intro (show i < 12 by omega) ?_))
      refine topI (V := V) hgi.1 ?_
      refine hV.go rfl ?_
      refine And.intro (callP_v (c_at G hL.1.lt16 (by omega) _) (by decide) (by decide) ?_) trivial
      refine hV.go rfl ?_
      refine And.intro (callP_r (c_unite (po := fun v z => v = some (vI (b2i (decide (g' (t i) ≠ g' (t (g' i)))))) ∧ ClW z (uni g' (t i) (t (g' i))) ∧ Sm [6] u z) G hc (by omega) (by omega) (fun z p q => ⟨rfl, p, q⟩)) (by decide) (by decide) (fun v z hq => ?_)) trivial
      obtain ⟨rfl, k1, k2⟩ := hq
      refine hV.go rfl ?_
      refine topI (V := V) (b2i_or _ _) ?_
      iterate 3 refine hV.go rfl ?_
      have hcg : Cg ts a b (t i) (t (g' i)) := (hb.2.2 i (by omega)).go ht
      have := ih (i + 1) (by omega) z (uni g' (t i) (t (g' i))) (ch || decide (g' (t i) ≠ g' (t (g' i)))) (hs.tr k2) k1 (hb.un hti htg hn hcg) (fun x y e => uni_keep (hk x y e)) (by
        by_cases e : g' (t i) = g' (t (g' i))
        · rw [decide_eq_false (fun z => z e), Bool.or_false, uni_same e]
          rcases hor with ⟨h1, rfl, h3⟩ | h1
          · refine Or.inl ⟨h1, rfl, fun p hp => ?_⟩
            by_cases ep : p = i
            · rw [ep]; exact e
            · exact h3 p (by omega)
          · exact Or.inr h1
        · rw [decide_eq_true e, Bool.or_true]
          have hlt := ncl_lt hb (show t i < 12 by omega) (show t (g' i) < 12 by omega) e
          rcases hor with ⟨h1, rfl, h3⟩ | h1
          · exact Or.inr ⟨rfl, hlt⟩
          · exact Or.inr ⟨rfl, by omega⟩)
      rw [← nI_inc i] at this
      exact this
  iterate 4 refine hV.go rfl ?_
  exact loop n 0 (by omega) w g false Sm.rf hg hB (fun _ _ e => e) (Or.inl ⟨rfl, rfl, fun p hp => by omega⟩)
theorem c_partClasses {w : Wd} {n a b : Nat} {ts : List (Nat → Nat)} {po : Option AV → Wd → Prop} (G : GC l E) (h6 : w.1 0 0 6 = nI n) (hn : n ≤ 12) (h7 : w.1 0 0 7 = nI ts.length) (hmv : MvW w (mvs ts)) (ht : ∀ t ∈ ts, Lw n t) (ha : a < n) (hb : b < n) (hpo : ∀ u g, ClW u g → BE n ts a b g → Sm [6] w u → po none u) : Ctr l E 4 0 mX4_partClasses [vR 0, vI (nI a), vI (nI b)] w po noX := by
  refine Ctr.of (tw := []) G.1 G.2 oX4_ok pgX4_partClasses rfl (by decide) rfl rfl (Nat.le_of_ble_eq_true rfl) ?_
  intro V hV
  have hl10 := hmv.1
  rw [mvs_len] at hl10
  have rounds : ∀ c r : Nat, r + c = 12 → ∀ u g ch (x5 : Option AV), Sm [6] w u → ClW u g → BI n ts a b g → g a = g b → ((ch = true ∧ ncl g + r ≤ 11) ∨ (ch = false ∧ BE n ts a b g)) → V 31 [some (vR 0), some (vI (nI a)), some (vI (nI b)), some (vI (b2i ch)), some (vI (nI r)), x5] [] u 0 := by
    intro c
    induction c with
    | zero =>
      intro r hr u g ch x5 hs hc hB hab hor
      have hE : BE n ts a b g := by
        rcases hor with ⟨-, h⟩ | ⟨-, h⟩
        · have := ncl_pos hB
          omega
        · exact h
      iterate 3 refine hV.go rfl ?_
      refine And.intro (fun _ => ?_) (fun hc => absurd (show nI 12 ≤ nI r from nI_le (by omega) (by omega)) hc)
      refine hV.go rfl ?_
      exact ⟨hpo u g hc hE hs, Nat.le_refl _⟩
    | succ c ih =>
      intro r hr u g ch x5 hs hc hB hab hor
      iterate 3 refine hV.go rfl ?_
      refine And.intro (fun hc => ?_) (fun _ => ?_)
      · have hc : nI 12 ≤ nI r := hc
        rw [nI_leI (by omega) (by omega)] at hc
        omega
      iterate 2 refine hV.go rfl ?_
      refine And.intro (fun hz => ?_) (fun hz => ?_)
      · have hz : b2i ch = 0 := hz
        rw [b2i_eq] at hz
        refine hV.go rfl ?_
        have hE : BE n ts a b g := by
          rcases hor with ⟨h, -⟩ | ⟨-, h⟩
          · rw [hz] at h
            cases h
          · exact h
        exact ⟨hpo u g hc hE hs, Nat.le_refl _⟩
      · have hz : ¬ b2i ch = 0 := hz
        rw [b2i_ne] at hz
        have hnc : ncl g + r ≤ 11 := by
          rcases hor with ⟨-, h⟩ | ⟨h, -⟩
          · exact h
          · rw [hz] at h
            cases h
        have inner : ∀ c2 i : Nat, i + c2 = ts.length → ∀ z g' cg, Sm [6] w z → ClW z g' → BI n ts a b g' → g' a = g' b → ((cg = false ∧ g' = g ∧ ∀ i' t, i' < i → ts[i']? = some t → ∀ p, p < n → g (t p) = g (t (g p))) ∨ (cg = true ∧ ncl g' < ncl g)) → V 47 [some (vR 0), some (vI (nI a)), some (vI (nI b)), some (vI (b2i cg)), some (vI (nI r)), some (vI (nI i))] [] z 0 := by
          intro c2
          induction c2 with
          | zero =>
            intro i hi z g' cg hs' hc' hB' hab' hor'
            iterate 3 refine hV.go rfl ?_
            refine topI (V := V) (show z.1 0 0 7 = nI ts.length by rw [(hs' 0 (by decide)).1]; exact h7) ?_
            refine hV.go rfl ?_
            refine And.intro (fun _ => ?_) (fun hc => absurd (show nI ts.length ≤ nI i from nI_le (by omega) (by omega)) hc)
            iterate 2 refine hV.go rfl ?_
            have := ih (r + 1) (by omega) z g' cg (some (vI (nI i))) hs' hc' hB' hab' (by
              rcases hor' with ⟨h1, rfl, h3⟩ | ⟨h1, h2⟩
              · refine Or.inr ⟨h1, hB', hab', fun t hT p hp => ?_⟩
                obtain ⟨i', hi'⟩ := List.getElem?_of_mem hT
                exact h3 i' t (by have := (List.getElem?_eq_some_iff.mp hi').1; omega) hi' p hp
              · exact Or.inl ⟨h1, by omega⟩)
            rw [← nI_inc r] at this
            exact this
          | succ c2 ih2 =>
            intro i hi z g' cg hs' hc' hB' hab' hor'
            have hT : ts[i]? = some ts[i] := List.getElem?_eq_getElem (by omega)
            have hmem := List.mem_of_getElem? hT
            iterate 3 refine hV.go rfl ?_
            refine topI (V := V) (show z.1 0 0 7 = nI ts.length by rw [(hs' 0 (by decide)).1]; exact h7) ?_
            refine hV.go rfl ?_
            refine And.intro (fun hc => ?_) (fun _ => ?_)
            · have hc : nI ts.length ≤ nI i := hc
              rw [nI_leI (by omega) (by omega)] at hc
              omega
            iterate 7 refine hV.go rfl ?_
            refine topI (V := V) (show (2 : Int32) * nI i = nI (2 * i) from (Int32.ofNat_mul 2 i).symm) ?_
            refine hV.go rfl ?_
            refine Exists.intro (2 * i) (And.intro rfl (And.intro (show 2 * i < 10 by omega) ?_))
            refine topJ (V := V) (show z.2 4 0 (2 * i) = rw ts[i] by rw [(hs' 4 (by decide)).2]; exact hmv.2.2 _ _ (mvs_ev _ i _ hT).1) ?_
            refine hV.go rfl ?_
            refine And.intro (callP_r (c_carry (po := fun v y => ∃ g2 c3, v = some (vI (b2i c3)) ∧ ClW y g2 ∧ BI n ts a b g2 ∧ CR n g' g2 c3 ts[i] ∧ Sm [6] z y) G (by rw [(hs' 0 (by decide)).1]; exact h6) hn hmem (ht _ hmem) hc' hB' (fun y g2 c3 q1 q2 q3 q4 => ⟨g2, c3, rfl, q1, q2, q3, q4⟩)) (by decide) (by decide) (fun v y hq => ?_)) trivial
            obtain ⟨g2, c3, rfl, q1, q2, ⟨q3, q5⟩, q4⟩ := hq
            refine hV.go rfl ?_
            refine topI (V := V) (b2i_or _ _) ?_
            iterate 3 refine hV.go rfl ?_
            have := ih2 (i + 1) (by omega) y g2 (cg || c3) (hs'.tr q4) q1 q2 (q3 _ _ hab') (by
              rcases hor' with ⟨rfl, rfl, h3⟩ | ⟨rfl, h2⟩
              · rcases q5 with ⟨rfl, rfl, r3⟩ | ⟨rfl, r2⟩
                · refine Or.inl ⟨rfl, rfl, fun i' t hi' hti p hp => ?_⟩
                  by_cases e : i' = i
                  · subst e
                    rw [hT] at hti
                    cases hti
                    exact r3 p hp
                  · exact h3 i' t (by omega) hti p hp
                · exact Or.inr ⟨rfl, r2⟩
              · refine Or.inr ⟨rfl, ?_⟩
                rcases q5 with ⟨-, rfl, -⟩ | ⟨-, r2⟩
                · exact h2
                · omega)
            rw [← nI_inc i] at this
            exact this
        iterate 4 refine hV.go rfl ?_
        exact inner ts.length 0 (by omega) u g false hs hc hB hab (Or.inl ⟨rfl, rfl, fun i' t hi' => by omega⟩)
  have start : ∀ c i : Nat, i + c = 12 → ∀ u (x4 x5 : Option AV), Sm [6] w u → (∀ p, p < i → u.1 6 0 p = nI p) → V 2 [some (vR 0), some (vI (nI a)), some (vI (nI b)), some (vI (nI i)), x4, x5] [] u 0 := by
    intro c
    induction c with
    | zero =>
      intro i hi u x4 x5 hs hu
      iterate 3 refine hV.go rfl ?_
      refine And.intro (fun _ => ?_) (fun hc => absurd (show nI 12 ≤ nI i from nI_le (by omega) (by omega)) hc)
      iterate 4 refine hV.go rfl ?_
      refine And.intro (callP_r (c_unite (g := idp) (po := fun v z => v = some (vI (b2i (decide (idp a ≠ idp b)))) ∧ ClW z (uni idp a b) ∧ Sm [6] u z) G (fun p hp => ⟨hu p (by omega), hp⟩) (by omega) (by omega) (fun z p q => ⟨rfl, p, q⟩)) (by decide) (by decide) (fun v z hq => ?_)) trivial
      obtain ⟨rfl, k1, k2⟩ := hq
      iterate 3 refine hV.go rfl ?_
      have hB0 := BI.id n ts a b
      refine rounds 12 0 rfl z (uni idp a b) _ _ (hs.tr k2) k1 (hB0.un ha hb hn Cg.ba) uni_tog ?_
      by_cases e : a = b
      · have e2 : uni idp a b = idp := uni_same (show idp a = idp b from e)
        rw [e2]
        exact Or.inr ⟨decide_eq_false (fun z => z e), hB0, e, fun t _ p _ => rfl⟩
      · refine Or.inl ⟨decide_eq_true e, ?_⟩
        have := ncl_lt hB0 (show a < 12 by omega) (show b < 12 by omega) e
        rw [ncl_id] at this
        omega
    | succ c ih =>
      intro i hi u x4 x5 hs hu
      iterate 3 refine hV.go rfl ?_
      refine And.intro (fun hc => ?_) (fun _ => ?_)
      · have hc : nI 12 ≤ nI i := hc
        rw [nI_leI (by omega) (by omega)] at hc
        omega
      iterate 5 refine hV.go rfl ?_
      refine Exists.intro i (And.intro rfl (And.intro (show i < 12 by omega) ?_))
      iterate 2 refine hV.go rfl ?_
      have := ih (i + 1) (by omega) (wI u 6 0 i (nI i)) x4 x5 (Sm.wI (k := 6) hs (by decide)) (fun p hp => by
        rw [wI_get]
        by_cases e : p = i
        · rw [if_pos ⟨rfl, rfl, e⟩, e]
        · rw [if_neg (by omega)]
          exact hu p (by omega))
      rw [← nI_inc i] at this
      exact this
  iterate 2 refine hV.go rfl ?_
  exact start 12 0 rfl w _ _ Sm.rf (fun p hp => by omega)
theorem c_block {w : Wd} {A : AS} {x y : Int32} {po : Option AV → Wd → Prop} {xo : String → Wd → Prop} (G : GC l E) (hw : KI w A) (h1 : ∀ j s, j < A.1 → s < A.1 → x = nI j → y = nI s → ∀ u r, BlkV A.2.1 j s r → KI u A → Sm clK w u → po (some (vI r)) u) (h2 : ((x < 0 ∨ nI A.1 ≤ x) ∨ (y < 0 ∨ nI A.1 ≤ y)) → xo xIO w) : Ctr l E 5 2 mX4_block [vR 0, vI x, vI y] w po xo := by
  refine Ctr.of (tw := []) G.1 G.2 oX4_ok pgX4_block rfl (by decide) rfl rfl (Nat.le_of_ble_eq_true rfl) ?_
  intro V hV
  obtain ⟨⟨n1, n2, n3, n4, n5, n6⟩, mv, -⟩ := hw.1
  iterate 3 refine hV.go rfl ?_
  refine And.intro (callP_x (c_requireSticker (po := fun v z => v = none ∧ z = w ∧ ∃ i, i < A.1 ∧ x = nI i) (xo := fun X z => X = xIO ∧ z = w ∧ (x < 0 ∨ nI A.1 ≤ x)) G n4 n1.2 (fun k hk e => ⟨rfl, rfl, k, hk, e⟩) (fun h => ⟨rfl, rfl, h⟩)) (by decide) (by decide) (fun r u hp => ?_) (fun X u hp => ?_)) trivial
  · obtain ⟨rfl, rfl, j, hj, rfl⟩ := hp
    iterate 3 refine hV.go rfl ?_
    refine And.intro (callP_x (c_requireSticker (po := fun v z => v = none ∧ z = u ∧ ∃ i, i < A.1 ∧ y = nI i) (xo := fun X z => X = xIO ∧ z = u ∧ (y < 0 ∨ nI A.1 ≤ y)) G n4 n1.2 (fun k hk e => ⟨rfl, rfl, k, hk, e⟩) (fun h => ⟨rfl, rfl, h⟩)) (by decide) (by decide) (fun r u1 hp => ?_) (fun X u1 hp => ?_)) trivial
    · obtain ⟨rfl, rfl, s, hs, rfl⟩ := hp
      iterate 3 refine hV.go rfl ?_
      refine And.intro (callP_r (c_placesFrom G n4 n1.2 n5 mv n2.2 hj) (by decide) (by decide) (fun v z hq => ?_)) trivial
      obtain ⟨rfl, k, rfl, hk, hko⟩ := hq
      iterate 7 refine hV.go rfl ?_
      refine And.intro (fun hc => ?_) (fun hc => ?_)
      · have hb : k.testBit s = true := by
          cases hz : k.testBit s with
          | true => rfl
          | false => exact absurd ((nx_bit (k := k) (j := s) (by omega) (by omega)).mpr hz) hc
        have hkj : k.testBit j = true := (hko j).mpr (OJ.rf _ _)
        obtain ⟨z1, z2, z3⟩ := tzn_spec (show j < 12 by omega) hkj
        have hzn : tzn k < A.1 := by
          obtain ⟨f, a, e⟩ := (hko _).mp z2
          rw [← e]
          exact (a.lw n2.2).lt hj
        iterate 4 refine hV.go rfl ?_
        refine And.intro (callP_v (c_ntz G hk (fun e => by rw [e] at hkj; simp at hkj) z1) (by decide) (by decide) ?_) trivial
        refine hV.go rfl ?_
        refine And.intro (callP_r (c_partClasses (po := fun v q => v = none ∧ ∃ g, ClW q g ∧ BE A.1 A.2.1 j (tzn k) g ∧ Sm [6] z q) G n4 n1.2 n5 mv n2.2 hj hzn (fun q g a b c => ⟨rfl, g, a, b, c⟩)) (by decide) (by decide) (fun v q hq => ?_)) trivial
        obtain ⟨rfl, g, hcl, hE, hsm⟩ := hq
        iterate 4 refine hV.go rfl ?_
        refine Exists.intro s (And.intro rfl (And.intro (show s < 12 by omega) ?_))
        refine topI (V := V) (hcl s (by omega)).1 ?_
        refine hV.go rfl ?_
        refine ⟨h1 j s hj hs rfl rfl q _ (Or.inr ⟨(hko s).mp hb, tzn k, g s, ⟨(hko _).mp z2, fun p hp => z3 p ((hko p).mpr hp)⟩, hE.least n1.2 hj hzn n2.2 (by omega), rfl⟩) ⟨hw.1.sm hsm (by decide), hw.2.cg (hsm 1 (by decide)).1 (hsm 7 (by decide)).1⟩ (hsm.mono (by decide)), Nat.le_refl _⟩
      · have hb : k.testBit s = false := (nx_bit (k := k) (j := s) (by omega) (by omega)).mp (Classical.not_not.mp hc)
        repeat refine hV.go rfl ?_
        refine ⟨h1 j s hj hs rfl rfl z _ (Or.inl ⟨fun h => ?_, rfl⟩) hw Sm.rf, Nat.le_refl _⟩
        rw [(hko s).mpr h] at hb
        cases hb
    · obtain ⟨rfl, rfl, hb⟩ := hp
      exact h2 (Or.inr hb)
  · obtain ⟨rfl, rfl, hb⟩ := hp
    exact h2 (Or.inl hb)
end
