/-! sifting, and finding all rows -/
def SR (n : Nat) (s : CS) (g : Nat → Nat) (s' : CS) (b : Bool) : Prop := (b = false ∧ s' = s ∧ H s 0 g) ∨ (b = true ∧ ∃ k f, k < n ∧ Fx k f ∧ f k ∉ cO s k ∧ (∀ P, Gr P → P g → (∀ j p, j < 12 → p ∈ cO s j → P (cT s j p)) → P f) ∧ H (keep s k f) 0 g ∧ s' = keep s k f)
def CI (ts : List (Nat → Nat)) (s : CS) : Prop := CW s ∧ ∀ j p, j < 12 → p ∈ cO s j → Gen ts (cT s j p)
theorem SR.ok {n : Nat} {ts : List (Nat → Nat)} {s s' : CS} {g : Nat → Nat} {b : Bool} (h : SR n s g s' b) (hn : n ≤ 12) (hts : ∀ t ∈ ts, Pm t) (hc : CI ts s) (hg : Gen ts g) : CI ts s' ∧ Ext s s' ∧ H s' 0 g ∧ (b = true → totN s 12 < totN s' 12) := by
  rcases h with ⟨rfl, rfl, h⟩ | ⟨rfl, k, f, h1, h2, h3, h4, h5, rfl⟩
  · exact ⟨hc, Ext.rf, h, fun z => by cases z⟩
  · refine ⟨⟨keep_CW hc.1 (by omega) h2 h3, fun j p hj hp => ?_⟩, keep_Ext h3, h5, fun _ => by rw [totN_keep, if_pos (by omega)]; omega⟩
    have hf : Gen ts f := h4 (Gen ts) (Gr.gen hts) hg hc.2
    rw [keep_T]
    by_cases e : j = k ∧ p = f k
    · rw [if_pos e]
      exact hf
    · rw [if_neg e]
      rw [keep_O] at hp
      by_cases ej : j = k
      · subst ej
        rw [if_pos rfl] at hp
        rcases List.mem_append.mp hp with hp | hp
        · exact hc.2 j p hj hp
        · rw [List.mem_singleton] at hp
          exact (e ⟨rfl, hp⟩).elim
      · rw [if_neg ej] at hp
        exact hc.2 j p hj hp
theorem MC.has {w : Wd} {s : CS} (h : MC w s) {k p : Nat} (hk : k < 12) (hp : p < 12) : w.1 34 0 (12 * k + p) = b2i (decide (p ∈ cO s k)) := by
  by_cases e : p ∈ cO s k
  · rw [((h k p hk hp).1 e).1, decide_eq_true e]
    rfl
  · rw [(h k p hk hp).2 e, decide_eq_false e]
    rfl
theorem MC.row {w : Wd} {s : CS} (h : MC w s) {k p : Nat} (hk : k < 12) (hp : p < 12) (e : p ∈ cO s k) : Rw w 35 (12 * (12 * k + p)) (cT s k p) := ((h k p hk hp).1 e).2
section
variable {l : Launch} {E : En}
theorem m_sift {w : Wd} {s : CS} {n : Nat} {g : Nat → Nat} {po : Option AV → Wd → Prop} (G : GM l E) (h1 : w.1 30 0 1 = nI n) (hn : n ≤ 12) (hc : MC w s) (hcw : CW s) (hg : Lw n g) (htL : ∀ j p, j < 12 → p ∈ cO s j → Lw n (cT s j p)) (hwk : Rw w 36 0 g) (hpo : ∀ u s' b, SR n s g s' b → MC u s' → Sm [34, 35, 36, 38] w u → po (some (vI (b2i b))) u) : Ctr l E 2 0 mX5_sift [vR 30] w po noX := by
  refine Ctr.of (tw := []) G.1 G.2 oX5_ok pgX5_sift rfl (by decide) rfl rfl (Nat.le_of_ble_eq_true rfl) ?_
  intro V hV
  have loop : ∀ c k : Nat, k + c = n → ∀ (u : Wd) (f : Nat → Nat) (x2 x3 x4 : Option AV), Sm [36, 38] w u → Rw u 36 0 f → Lw n f → Fx k f → (∀ s', Ext s s' → H s' k f → H s' 0 g) → (∀ P, Gr P → P g → (∀ j p, j < 12 → p ∈ cO s j → P (cT s j p)) → P f) → V 2 [some (vR 30), some (vI (nI k)), x2, x3, x4] [] u 0 := by
    intro c
    induction c with
    | zero =>
      intro k hk u f x2 x3 x4 hs hf hL hx hup hP
      iterate 3 refine hV.go rfl ?_
      refine topI (V := V) (show u.1 30 0 1 = nI n by rw [(hs 30 (by decide)).1]; exact h1) ?_
      refine hV.go rfl ?_
      refine And.intro (fun _ => ?_) (fun hc => absurd (show nI n ≤ nI k from nI_le (by omega) (by omega)) hc)
      repeat refine hV.go rfl ?_
      have hid : f = idp := by
        funext i
        by_cases e : i < n
        · exact hx.2 i (by omega)
        · exact hL.2 i (by omega)
      refine ⟨Or.inl rfl, hpo u s false (Or.inl ⟨rfl, rfl, hup s Ext.rf ?_⟩) (hc.cg (hs 34 (by decide)).1 (hs 35 (by decide)).1) (hs.mono (by decide)), Nat.le_refl _⟩
      rw [hid]
      exact H_id hcw (12 - k) k (by omega)
    | succ c ih =>
      intro k hk u f x2 x3 x4 hs hf hL hx hup hP
      have hkn : k < n := by omega
      have hfk := hL.lt hkn
      have hcu : MC u s := hc.cg (hs 34 (by decide)).1 (hs 35 (by decide)).1
      iterate 3 refine hV.go rfl ?_
      refine topI (V := V) (show u.1 30 0 1 = nI n by rw [(hs 30 (by decide)).1]; exact h1) ?_
      refine hV.go rfl ?_
      refine And.intro (fun hc => ?_) (fun _ => ?_)
      · have hc : nI n ≤ nI k := hc
        rw [nI_leI (by omega) (by omega)] at hc
        omega
      iterate 4 refine hV.go rfl ?_
      refine Exists.intro k (And.intro rfl (And.intro (show k < 12 by omega) ?_))
      refine topI (V := V) (hf.at (by omega)) ?_
      iterate 5 refine hV.go rfl ?_
      refine topI (V := V) (nI_mul 12 k) ?_
      iterate 2 refine hV.go rfl ?_
      refine topI (V := V) (nI_add _ _) ?_
      refine hV.go rfl ?_
      refine topI (V := V) (nI_mul 12 _) ?_
      iterate 6 refine hV.go rfl ?_
      refine topI (V := V) (nI_mul 12 k) ?_
      iterate 2 refine hV.go rfl ?_
      refine topI (V := V) (nI_add _ _) ?_
      refine hV.go rfl ?_
      refine Exists.intro (12 * k + f k) (And.intro rfl (And.intro (show 12 * k + f k < 144 by omega) ?_))
      refine topI (V := V) (hcu.has (by omega) (by omega)) ?_
      refine hV.go rfl ?_
      refine And.intro (fun hz => ?_) (fun hz => ?_)
      · have hm : f k ∈ cO s k := of_decide_eq_true (b2i_ne.mp hz)
        have hrow := hcu.row (show k < 12 by omega) (show f k < 12 by omega) hm
        have htk := tk_fx hcw (show k < 12 by omega) hm
        iterate 3 refine hV.go rfl ?_
        refine And.intro (callP_r (m_takeOff (po := fun v z => v = none ∧ Rw z 36 0 (cmp f (iv (cT s k (f k)))) ∧ Sm [36, 38] u z) G (by omega) hrow htk.1 hf hL.1 (fun z a b => ⟨rfl, a, b⟩)) (by decide) (by decide) (fun r z hp => ?_)) trivial
        obtain ⟨rfl, hz1, hz2⟩ := hp
        iterate 2 refine hV.go rfl ?_
        have hrest := rest_fx hcw (show k < 12 by omega) hx hm
        have := ih (k + 1) (by omega) z (cmp f (iv (cT s k (f k)))) (some (vI (nI (f k)))) (some (vI (nI (12 * (12 * k + f k))))) x4 (hs.tr hz2) hz1 (hL.cmp (htL k _ (by omega) hm).iv) hrest (fun s' he hh => hup s' he ((H_lt (by omega) f).mpr ⟨(he k (by omega) _ hm).1, by rw [(he k (by omega) _ hm).2]; exact hh⟩)) (fun P GP hPg hPt => GP.2.1 _ _ (hP P GP hPg hPt) (GP.2.2.1 _ (hPt k _ (by omega) hm)))
        rw [← nI_inc k] at this
        exact this
      · have hm : f k ∉ cO s k := fun e => hz (b2i_ne.mpr (decide_eq_true e))
        iterate 5 refine hV.go rfl ?_
        refine topI (V := V) (nI_mul 12 k) ?_
        iterate 2 refine hV.go rfl ?_
        refine topI (V := V) (nI_add _ _) ?_
        iterate 2 refine hV.go rfl ?_
        refine Exists.intro (12 * k + f k) (And.intro rfl (And.intro (show 12 * k + f k < 144 by omega) ?_))
        have inner : ∀ c2 i : Nat, i + c2 = 12 → ∀ z, Sm [35] (wI u 34 0 (12 * k + f k) 1) z → (∀ y, z.1 35 0 y = if 12 * (12 * k + f k) ≤ y ∧ y < 12 * (12 * k + f k) + i then nI (f (y - 12 * (12 * k + f k))) else u.1 35 0 y) → V 56 [some (vR 30), some (vI (nI k)), some (vI (nI (f k))), some (vI (nI (12 * (12 * k + f k)))), some (vI (nI i))] [] z 0 := by
          intro c2
          induction c2 with
          | zero =>
            intro i hi z hsz hz
            iterate 3 refine hV.go rfl ?_
            refine And.intro (fun _ => ?_) (fun hc => absurd (show nI 12 ≤ nI i from nI_le (by omega) (by omega)) hc)
            repeat refine hV.go rfl ?_
            have hkc := keep_CW hcw (show k < 12 by omega) hx hm
            have h34 : ∀ y, z.1 34 0 y = if y = 12 * k + f k then 1 else u.1 34 0 y := fun y => by
              rw [(hsz 34 (by decide)).1, wI_get]
              by_cases e : y = 12 * k + f k
              · rw [if_pos ⟨rfl, rfl, e⟩, if_pos e]
              · rw [if_neg (fun q => e q.2.2), if_neg e]
            refine ⟨Or.inr rfl, hpo z (keep s k f) true (Or.inr ⟨rfl, k, f, hkn, hx, hm, hP, hup _ (keep_Ext hm) ?_, rfl⟩) (fun j q hj hq => ?_) ((hs.mono (by decide)).tr ((Sm.wI (k := 34) (ks := [34, 35, 36, 38]) Sm.rf (by decide)).tr (hsz.mono (by decide)))), Nat.le_refl _⟩
            · rw [H_lt (by omega), keep_T, if_pos ⟨rfl, rfl⟩, cmp_iv hL.1, keep_O, if_pos rfl]
              exact ⟨List.mem_append_right _ List.mem_cons_self, H_id hkc (12 - (k + 1)) (k + 1) (by omega)⟩
            · rw [keep_O, keep_T, h34]
              by_cases e : j = k ∧ q = f k
              · obtain ⟨rfl, rfl⟩ := e
                rw [if_pos rfl, if_pos rfl, if_pos (⟨rfl, rfl⟩ : j = j ∧ f j = f j)]
                refine ⟨fun _ => ⟨rfl, fun x hx' => ?_⟩, fun hno => (hno (List.mem_append_right _ List.mem_cons_self)).elim⟩
                rw [hz, if_pos ⟨by omega, by omega⟩]
                congr 2
                omega
              · rw [if_neg e, if_neg (show ¬ 12 * j + q = 12 * k + f k by omega)]
                have hmem : (q ∈ if j = k then cO s k ++ [f k] else cO s j) ↔ q ∈ cO s j := by
                  by_cases ej : j = k
                  · subst ej
                    rw [if_pos rfl]
                    constructor
                    · intro h
                      rcases List.mem_append.mp h with h | h
                      · exact h
                      · rw [List.mem_singleton] at h
                        exact (e ⟨rfl, h⟩).elim
                    · exact fun h => List.mem_append_left _ h
                  · rw [if_neg ej]
                have hold := hcu j q hj hq
                refine ⟨fun h => ⟨(hold.1 (hmem.mp h)).1, fun x hx' => ?_⟩, fun h => hold.2 (fun h' => h (hmem.mpr h'))⟩
                rw [hz, if_neg (by omega)]
                exact (hold.1 (hmem.mp h)).2 x hx'
          | succ c2 ih2 =>
            intro i hi z hsz hz
            iterate 3 refine hV.go rfl ?_
            refine And.intro (fun hc => ?_) (fun _ => ?_)
            · have hc : nI 12 ≤ nI i := hc
              rw [nI_leI (by omega) (by omega)] at hc
              omega
            iterate 5 refine hV.go rfl ?_
            refine topI (V := V) (nI_add _ _) ?_
            iterate 4 refine hV.go rfl ?_
            refine Exists.intro i (And.intro rfl (And.intro (show i < 12 by omega) ?_))
            refine topI (V := V) (show z.1 36 0 i = nI (f i) by rw [(hsz 36 (by decide)).1, wI_ne (by omega)]; exact hf.at (by omega)) ?_
            refine hV.go rfl ?_
            refine Exists.intro (12 * (12 * k + f k) + i) (And.intro rfl (And.intro (show 12 * (12 * k + f k) + i < 1728 by omega) ?_))
            iterate 2 refine hV.go rfl ?_
            have := ih2 (i + 1) (by omega) (wI z 35 0 (12 * (12 * k + f k) + i) (nI (f i))) (Sm.wI (k := 35) hsz (by decide)) (fun y => by
              by_cases e : y = 12 * (12 * k + f k) + i
              · rw [e, wI_eq, if_pos ⟨by omega, by omega⟩]
                congr 2
                omega
              · rw [wI_ne (by omega), hz y]
                by_cases q : 12 * (12 * k + f k) ≤ y ∧ y < 12 * (12 * k + f k) + i
                · rw [if_pos q, if_pos ⟨q.1, by omega⟩]
                · rw [if_neg q, if_neg (by omega)])
            rw [← nI_inc i] at this
            exact this
        iterate 2 refine hV.go rfl ?_
        exact inner 12 0 rfl _ Sm.rf (fun y => by rw [wI_ne (show ¬ (35 = 34 ∧ 0 = 0 ∧ y = 12 * k + f k) from fun q => absurd q.1 (by decide)), if_neg (by omega)])
  iterate 2 refine hV.go rfl ?_
  exact loop n 0 (by omega) w g none none none Sm.rf hwk hg ⟨hg.1, fun j hj => by omega⟩ (fun s' _ h => h) (fun P _ h _ => h)
end
