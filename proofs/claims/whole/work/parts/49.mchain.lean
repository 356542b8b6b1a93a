/-! the reference's chain: pair products that sift make a group -/
def P2 (s : CS) : Prop := ∀ k j p q, k ≤ j → j < 12 → p ∈ cO s k → q ∈ cO s j → H s k (cmp (cT s k p) (cT s j q))
theorem tk_fx {s : CS} (hcw : CW s) {k p : Nat} (hk : k < 12) (hp : p ∈ cO s k) : Fx k (cT s k p) := ⟨((hcw k hk).2.2.2.1 p hp).2.1, ((hcw k hk).2.2.2.1 p hp).2.2.2⟩
theorem close2 {s : CS} (hcw : CW s) (hp : P2 s) : ∀ n k, k + n = 12 → ∀ f g, Fx k f → Fx k g → H s k f → H s k g → H s k (cmp f g)
  | 0, k, hk, f, g, _, _, _, _ => by
    have : k = 12 := by omega
    subst this
    exact H_12 _ _
  | n + 1, k, hk, f, g, hf, hg, hhf, hhg => by
    have hkk : k < 12 := by omega
    have ih := close2 hcw hp n (k + 1) (by omega)
    have stepA : ∀ f, Fx k f → H s k f → ∀ j q, k ≤ j → j < 12 → q ∈ cO s j → H s k (cmp f (cT s j q)) := by
      intro f hf hhf j q hj hj2 hq
      obtain ⟨p, hp1, g0, a1, a2, rfl⟩ := (H_split hcw hkk hf).mp hhf
      have hb := tk_fx hcw hj2 hq
      have ha := tk_fx hcw hkk hp1
      have hab := ha.cmp (hb.mono hj)
      obtain ⟨p', hp', g1, b1, b2, e⟩ := (H_split hcw hkk hab).mp (hp k j p q hj hj2 hp1 hq)
      refine (H_split hcw hkk (hf.cmp (hb.mono hj))).mpr ⟨p', hp', cmp g0 g1, a1.cmp b1, ih g0 g1 a1 b1 a2 b2, ?_⟩
      rw [cmp_assoc, e]
      rfl
    have stepB : ∀ m j, j + m = 12 → k ≤ j → ∀ g, Fx j g → H s j g → ∀ f, Fx k f → H s k f → H s k (cmp f g) := by
      intro m
      induction m with
      | zero =>
        intro j hj hkj g hg _ f hf hhf
        have : j = 12 := by omega
        subst this
        rw [hg.twelve, cmp_id]
        exact hhf
      | succ m ihm =>
        intro j hj hkj g hg hhg f hf hhf
        obtain ⟨q, hq, g', a1, a2, rfl⟩ := (H_split hcw (by omega) hg).mp hhg
        have := ihm (j + 1) (by omega) (by omega) g' a1 a2 f hf hhf
        exact stepA (cmp f g') (hf.cmp (a1.mono (by omega))) this j q hkj (by omega) hq
    exact stepB (n + 1) k hk (Nat.le_refl _) g hg hhg f hf hhf
theorem H_in {s : CS} (hcw : CW s) {P : (Nat → Nat) → Prop} (G : Gr P) (ht : ∀ j p, j < 12 → p ∈ cO s j → P (cT s j p)) : ∀ n k, k + n = 12 → ∀ f, Fx k f → H s k f → P f
  | 0, k, hk, f, hf, _ => by
    have : k = 12 := by omega
    subst this
    rw [hf.twelve]
    exact G.1
  | n + 1, k, hk, f, hf, h => by
    obtain ⟨p, hp, g, a1, a2, rfl⟩ := (H_split hcw (by omega) hf).mp h
    exact G.2.1 _ _ (H_in hcw G ht n (k + 1) (by omega) g a1 a2) (ht k p (by omega) hp)
theorem CP.of2 {s : CS} {ts : List (Nat → Nat)} (hcw : CW s) (hp : P2 s) (hts : ∀ t ∈ ts, Pm t) (ht : ∀ j p, j < 12 → p ∈ cO s j → Gen ts (cT s j p)) (hh : ∀ t ∈ ts, H s 0 t) : CP s (Gen ts) := by
  refine CP.of hcw (fun f hf => ⟨fun h => H_in hcw (Gr.gen hts) ht 12 0 rfl f ⟨hf, fun j hj => by omega⟩ h, fun h => ?_⟩)
  have h0 : ∀ x, Pm x → Fx 0 x := fun x hx => ⟨hx, fun j hj => by omega⟩
  exact (Gen.ind (P := fun x => Pm x ∧ H s 0 x) ⟨Pm.id, H_id hcw 12 0 rfl⟩ (fun a b ha hb => ⟨ha.1.cmp hb.1, close2 hcw hp 12 0 rfl a b (h0 a ha.1) (h0 b hb.1) ha.2 hb.2⟩) (fun x hx => ⟨hts x hx, hh x hx⟩) h).2
theorem keep_Ext {s : CS} {k : Nat} {f : Nat → Nat} (hn : f k ∉ cO s k) : Ext s (keep s k f) := fun j _ p hp => by
  rw [keep_O, keep_T]
  by_cases e : j = k
  · subst e
    rw [if_pos rfl, if_neg (fun z => hn (by rw [← z.2]; exact hp))]
    exact ⟨List.mem_append_left _ hp, rfl⟩
  · rw [if_neg e, if_neg (fun z => e z.1)]
    exact ⟨hp, rfl⟩
def totN (s : CS) : Nat → Nat
  | 0 => 0
  | n + 1 => totN s n + (cO s n).length
theorem totN_le {s : CS} (hcw : CW s) : ∀ n, n ≤ 12 → totN s n ≤ 12 * n
  | 0, _ => Nat.le_refl _
  | n + 1, h => by
    have h1 := totN_le hcw n (by omega)
    have h2 := nodup_len (hcw n (by omega)).1 (fun p hp => ((hcw n (by omega)).2.2.2.1 p hp).1)
    show totN s n + (cO s n).length ≤ _
    omega
theorem totN_keep {s : CS} {k : Nat} {f : Nat → Nat} : ∀ n, totN (keep s k f) n = totN s n + if k < n then 1 else 0
  | 0 => by simp [totN]
  | n + 1 => by
    have ih := totN_keep (s := s) (k := k) (f := f) n
    show totN (keep s k f) n + (cO (keep s k f) n).length = totN s n + (cO s n).length + _
    rw [ih, keep_O]
    by_cases e : n = k
    · subst e
      rw [if_pos rfl, List.length_append, if_neg (by omega), if_pos (by omega)]
      simp only [List.length_cons, List.length_nil]
      omega
    · rw [if_neg e]
      by_cases z : k < n
      · rw [if_pos z, if_pos (by omega)]
        omega
      · rw [if_neg z, if_neg (by omega)]
        omega
theorem MC.cg {w u : Wd} {s : CS} (h : MC w s) (h3 : u.1 34 = w.1 34) (h4 : u.1 35 = w.1 35) : MC u s := by
  unfold MC at h ⊢
  rw [h3, h4]
  exact h
/-- a row of twelve ints -/
def Rw (w : Wd) (k o : Nat) (f : Nat → Nat) : Prop := ∀ x, x < 12 → w.1 k 0 (o + x) = nI (f x)
theorem Rw.at {w : Wd} {k : Nat} {f : Nat → Nat} (h : Rw w k 0 f) {x : Nat} (hx : x < 12) : w.1 k 0 x = nI (f x) := by
  have := h x hx
  rwa [Nat.zero_add] at this
theorem Rw.of {w : Wd} {k : Nat} {f : Nat → Nat} (h : ∀ x, x < 12 → w.1 k 0 x = nI (f x)) : Rw w k 0 f := fun x hx => by rw [Nat.zero_add]; exact h x hx
theorem Rw.cg {w u : Wd} {k o : Nat} {f : Nat → Nat} (h : Rw w k o f) (h1 : u.1 k = w.1 k) : Rw u k o f := fun x hx => by rw [h1]; exact h x hx
section
variable {l : Launch} {E : En}
theorem m_takeTable {w : Wd} {n : Nat} {tb : Nat → Nat} {po : Option AV → Wd → Prop} (G : GM l E) (hn : n ≤ 12) (ht : ∀ s, s < n → w.1 32 0 s = nI (tb s)) (hpo : ∀ u, (∀ s, s < n → u.1 37 0 s = nI (tb s)) → Sm [37] w u → po none u) : Ctr l E 1 0 mX5_takeTable [vR 30] w po noX := by
  refine Ctr.of (tw := []) G.1 G.2 oX5_ok pgX5_takeTable rfl (by decide) rfl rfl (Nat.le_of_ble_eq_true rfl) ?_
  intro V hV
  have loop : ∀ c i : Nat, i + c = 12 → ∀ u, Sm [37] w u → (∀ p, p < i → u.1 37 0 p = w.1 32 0 p) → V 2 [some (vR 30), some (vI (nI i))] [] u 0 := by
    intro c
    induction c with
    | zero =>
      intro i hi u hs hu
      iterate 3 refine hV.go rfl ?_
      refine And.intro (fun _ => ?_) (fun hc => absurd (show nI 12 ≤ nI i from nI_le (by omega) (by omega)) hc)
      refine hV.go rfl ?_
      exact ⟨hpo u (fun x hx => (hu x (by omega)).trans (ht x hx)) hs, Nat.le_refl _⟩
    | succ c ih =>
      intro i hi u hs hu
      iterate 3 refine hV.go rfl ?_
      refine And.intro (fun hc => ?_) (fun _ => ?_)
      · have hc : nI 12 ≤ nI i := hc
        rw [nI_leI (by omega) (by omega)] at hc
        omega
      iterate 7 refine hV.go rfl ?_
      refine Exists.intro i (And.intro rfl (And.intro (show i < 12 by omega) ?_))
      refine topI (V := V) (show u.1 32 0 i = w.1 32 0 i by rw [(hs 32 (by decide)).1]) ?_
      refine hV.go rfl ?_
      refine Exists.intro i (And.intro rfl (And.intro (show i < 12 by omega) ?_))
      iterate 2 refine hV.go rfl ?_
      have := ih (i + 1) (by omega) (wI u 37 0 i (w.1 32 0 i)) (Sm.wI (k := 37) hs (by decide)) (fun p hp => by
        by_cases e : p = i
        · rw [e, wI_eq]
        · rw [wI_ne (by omega)]
          exact hu p (by omega))
      rw [← nI_inc i] at this
      exact this
  iterate 2 refine hV.go rfl ?_
  exact loop 12 0 rfl w Sm.rf (fun p hp => by omega)
theorem m_behind {w : Wd} {x y : Nat} {f g : Nat → Nat} {po : Option AV → Wd → Prop} (G : GM l E) (hx : x < 144) (hy : y < 144) (hf : Rw w 35 (12 * x) f) (hg : Rw w 35 (12 * y) g) (hpf : Pm f) (hpo : ∀ u, Rw u 36 0 (cmp f g) → Sm [36] w u → po none u) : Ctr l E 1 0 mX5_behind [vR 30, vI (nI x), vI (nI y)] w po noX := by
  refine Ctr.of (tw := []) G.1 G.2 oX5_ok pgX5_behind rfl (by decide) rfl rfl (Nat.le_of_ble_eq_true rfl) ?_
  intro V hV
  have loop : ∀ c i : Nat, i + c = 12 → ∀ u, Sm [36] w u → (∀ p, p < i → u.1 36 0 p = nI (g (f p))) → V 2 [some (vR 30), some (vI (nI x)), some (vI (nI y)), some (vI (nI i))] [] u 0 := by
    intro c
    induction c with
    | zero =>
      intro i hi u hs hu
      iterate 3 refine hV.go rfl ?_
      refine And.intro (fun _ => ?_) (fun hc => absurd (show nI 12 ≤ nI i from nI_le (by omega) (by omega)) hc)
      refine hV.go rfl ?_
      exact ⟨hpo u (Rw.of (fun x hx => hu x (by omega))) hs, Nat.le_refl _⟩
    | succ c ih =>
      intro i hi u hs hu
      have h35 := (hs 35 (by decide)).1
      have hfi := hpf.1 i (by omega)
      iterate 3 refine hV.go rfl ?_
      refine And.intro (fun hc => ?_) (fun _ => ?_)
      · have hc : nI 12 ≤ nI i := hc
        rw [nI_leI (by omega) (by omega)] at hc
        omega
      iterate 8 refine hV.go rfl ?_
      refine topI (V := V) (nI_mul 12 y) ?_
      iterate 5 refine hV.go rfl ?_
      refine topI (V := V) (nI_mul 12 x) ?_
      iterate 2 refine hV.go rfl ?_
      refine topI (V := V) (nI_add _ _) ?_
      refine hV.go rfl ?_
      refine Exists.intro (12 * x + i) (And.intro rfl (And.intro (show 12 * x + i < 1728 by omega) ?_))
      refine topI (V := V) (show u.1 35 0 (12 * x + i) = nI (f i) by rw [h35]; exact hf i (by omega)) ?_
      refine hV.go rfl ?_
      refine topI (V := V) (nI_add _ _) ?_
      refine hV.go rfl ?_
      refine Exists.intro (12 * y + f i) (And.intro rfl (And.intro (show 12 * y + f i < 1728 by omega) ?_))
      refine topI (V := V) (show u.1 35 0 (12 * y + f i) = nI (g (f i)) by rw [h35]; exact hg (f i) hfi) ?_
      refine hV.go rfl ?_
      refine Exists.intro i (And.intro rfl (And.intro (show i < 12 by omega) ?_))
      iterate 2 refine hV.go rfl ?_
      have := ih (i + 1) (by omega) (wI u 36 0 i (nI (g (f i)))) (Sm.wI (k := 36) hs (by decide)) (fun p hp => by
        by_cases e : p = i
        · rw [e, wI_eq]
        · rw [wI_ne (by omega)]
          exact hu p (by omega))
      rw [← nI_inc i] at this
      exact this
  iterate 2 refine hV.go rfl ?_
  exact loop 12 0 rfl w Sm.rf (fun p hp => by omega)
theorem m_advance {w : Wd} {o : Nat} {f ld : Nat → Nat} {po : Option AV → Wd → Prop} (G : GM l E) (ho : o + 12 ≤ 1728) (hf : Rw w 35 o f) (hpf : Pm f) (hl : Rw w 43 0 ld) (hpo : ∀ u, Rw u 43 0 (cmp f ld) → Sm [42, 43] w u → po none u) : Ctr l E 1 0 mX5_advance [vR 30, vI (nI o)] w po noX := by
  refine Ctr.of (tw := []) G.1 G.2 oX5_ok pgX5_advance rfl (by decide) rfl rfl (Nat.le_of_ble_eq_true rfl) ?_
  intro V hV
  have loop2 : ∀ u, Sm [42] w u → Rw u 42 0 (cmp f ld) → ∀ c i : Nat, i + c = 12 → ∀ z, Sm [43] u z → (∀ p, p < i → z.1 43 0 p = nI (ld (f p))) → V 35 [some (vR 30), some (vI (nI o)), some (vI (nI i))] [] z 0 := by
    intro u hsu hru c
    induction c with
    | zero =>
      intro i hi z hs hu
      iterate 3 refine hV.go rfl ?_
      refine And.intro (fun _ => ?_) (fun hc => absurd (show nI 12 ≤ nI i from nI_le (by omega) (by omega)) hc)
      refine hV.go rfl ?_
      exact ⟨hpo z (Rw.of (fun x hx => hu x (by omega))) ((hsu.mono (by decide)).tr (hs.mono (by decide))), Nat.le_refl _⟩
    | succ c ih =>
      intro i hi z hs hu
      iterate 3 refine hV.go rfl ?_
      refine And.intro (fun hc => ?_) (fun _ => ?_)
      · have hc : nI 12 ≤ nI i := hc
        rw [nI_leI (by omega) (by omega)] at hc
        omega
      iterate 7 refine hV.go rfl ?_
      refine Exists.intro i (And.intro rfl (And.intro (show i < 12 by omega) ?_))
      refine topI (V := V) (show z.1 42 0 i = nI (ld (f i)) by rw [(hs 42 (by decide)).1]; exact hru.at (by omega)) ?_
      refine hV.go rfl ?_
      refine Exists.intro i (And.intro rfl (And.intro (show i < 12 by omega) ?_))
      iterate 2 refine hV.go rfl ?_
      have := ih (i + 1) (by omega) (wI z 43 0 i (nI (ld (f i)))) (Sm.wI (k := 43) hs (by decide)) (fun p hp => by
        by_cases e : p = i
        · rw [e, wI_eq]
        · rw [wI_ne (by omega)]
          exact hu p (by omega))
      rw [← nI_inc i] at this
      exact this
  have loop : ∀ c i : Nat, i + c = 12 → ∀ u, Sm [42] w u → (∀ p, p < i → u.1 42 0 p = nI (ld (f p))) → V 2 [some (vR 30), some (vI (nI o)), some (vI (nI i))] [] u 0 := by
    intro c
    induction c with
    | zero =>
      intro i hi u hs hu
      iterate 3 refine hV.go rfl ?_
      refine And.intro (fun _ => ?_) (fun hc => absurd (show nI 12 ≤ nI i from nI_le (by omega) (by omega)) hc)
      iterate 2 refine hV.go rfl ?_
      exact loop2 u hs (Rw.of (fun x hx => hu x (by omega))) 12 0 rfl u Sm.rf (fun p hp => by omega)
    | succ c ih =>
      intro i hi u hs hu
      have hfi := hpf.1 i (by omega)
      iterate 3 refine hV.go rfl ?_
      refine And.intro (fun hc => ?_) (fun _ => ?_)
      · have hc : nI 12 ≤ nI i := hc
        rw [nI_leI (by omega) (by omega)] at hc
        omega
      iterate 10 refine hV.go rfl ?_
      refine topI (V := V) (nI_add _ _) ?_
      refine hV.go rfl ?_
      refine Exists.intro (o + i) (And.intro rfl (And.intro (show o + i < 1728 by omega) ?_))
      refine topI (V := V) (show u.1 35 0 (o + i) = nI (f i) by rw [(hs 35 (by decide)).1]; exact hf i (by omega)) ?_
      refine hV.go rfl ?_
      refine Exists.intro (f i) (And.intro rfl (And.intro (show f i < 12 by omega) ?_))
      refine topI (V := V) (show u.1 43 0 (f i) = nI (ld (f i)) by rw [(hs 43 (by decide)).1]; exact hl.at hfi) ?_
      refine hV.go rfl ?_
      refine Exists.intro i (And.intro rfl (And.intro (show i < 12 by omega) ?_))
      iterate 2 refine hV.go rfl ?_
      have := ih (i + 1) (by omega) (wI u 42 0 i (nI (ld (f i)))) (Sm.wI (k := 42) hs (by decide)) (fun p hp => by
        by_cases e : p = i
        · rw [e, wI_eq]
        · rw [wI_ne (by omega)]
          exact hu p (by omega))
      rw [← nI_inc i] at this
      exact this
  iterate 2 refine hV.go rfl ?_
  exact loop 12 0 rfl w Sm.rf (fun p hp => by omega)
theorem m_takeOff {w : Wd} {o : Nat} {f g : Nat → Nat} {po : Option AV → Wd → Prop} (G : GM l E) (ho : o + 12 ≤ 1728) (hf : Rw w 35 o f) (hpf : Pm f) (hg : Rw w 36 0 g) (hpg : Pm g) (hpo : ∀ u, Rw u 36 0 (cmp g (iv f)) → Sm [36, 38] w u → po none u) : Ctr l E 1 0 mX5_takeOff [vR 30, vI (nI o)] w po noX := by
  refine Ctr.of (tw := []) G.1 G.2 oX5_ok pgX5_takeOff rfl (by decide) rfl rfl (Nat.le_of_ble_eq_true rfl) ?_
  intro V hV
  have loop2 : ∀ u, Sm [38] w u → Rw u 38 0 (iv f) → ∀ c i : Nat, i + c = 12 → ∀ z, Sm [36] u z → (∀ p, p < 12 → z.1 36 0 p = nI (if p < i then iv f (g p) else g p)) → V 30 [some (vR 30), some (vI (nI o)), some (vI (nI i))] [] z 0 := by
    intro u hsu hru c
    induction c with
    | zero =>
      intro i hi z hs hu
      iterate 3 refine hV.go rfl ?_
      refine And.intro (fun _ => ?_) (fun hc => absurd (show nI 12 ≤ nI i from nI_le (by omega) (by omega)) hc)
      refine hV.go rfl ?_
      exact ⟨hpo z (Rw.of (fun x hx => by have := hu x hx; rwa [if_pos (by omega)] at this)) ((hsu.mono (by decide)).tr (hs.mono (by decide))), Nat.le_refl _⟩
    | succ c ih =>
      intro i hi z hs hu
      have hgi := hpg.1 i (by omega)
      iterate 3 refine hV.go rfl ?_
      refine And.intro (fun hc => ?_) (fun _ => ?_)
      · have hc : nI 12 ≤ nI i := hc
        rw [nI_leI (by omega) (by omega)] at hc
        omega
      iterate 9 refine hV.go rfl ?_
      refine Exists.intro i (And.intro rfl (And.intro (show i < 12 by omega) ?_))
      refine topI (V := V) (show z.1 36 0 i = nI (g i) by have := hu i (by omega); rwa [if_neg (by omega)] at this) ?_
      refine hV.go rfl ?_
      refine Exists.intro (g i) (And.intro rfl (And.intro (show g i < 12 by omega) ?_))
      refine topI (V := V) (show z.1 38 0 (g i) = nI (iv f (g i)) by rw [(hs 38 (by decide)).1]; exact hru.at hgi) ?_
      refine hV.go rfl ?_
      refine Exists.intro i (And.intro rfl (And.intro (show i < 12 by omega) ?_))
      iterate 2 refine hV.go rfl ?_
      have := ih (i + 1) (by omega) (wI z 36 0 i (nI (iv f (g i)))) (Sm.wI (k := 36) hs (by decide)) (fun p hp => by
        by_cases e : p = i
        · rw [e, wI_eq, if_pos (by omega)]
        · rw [wI_ne (by omega), hu p hp]
          by_cases q : p < i
          · rw [if_pos q, if_pos (by omega)]
          · rw [if_neg q, if_neg (by omega)])
      rw [← nI_inc i] at this
      exact this
  have loop : ∀ c i : Nat, i + c = 12 → ∀ u, Sm [38] w u → (∀ p, p < i → u.1 38 0 (f p) = nI p) → V 2 [some (vR 30), some (vI (nI o)), some (vI (nI i))] [] u 0 := by
    intro c
    induction c with
    | zero =>
      intro i hi u hs hu
      iterate 3 refine hV.go rfl ?_
      refine And.intro (fun _ => ?_) (fun hc => absurd (show nI 12 ≤ nI i from nI_le (by omega) (by omega)) hc)
      iterate 2 refine hV.go rfl ?_
      refine loop2 u hs (Rw.of (fun x hx => ?_)) 12 0 rfl u Sm.rf (fun p hp => by rw [if_neg (by omega), (hs 36 (by decide)).1]; exact hg.at hp)
      obtain ⟨y, hy, e⟩ := hpf.onto hx
      rw [← e, hpf.iv_l]
      exact hu y (by omega)
    | succ c ih =>
      intro i hi u hs hu
      have hfi := hpf.1 i (by omega)
      iterate 3 refine hV.go rfl ?_
      refine And.intro (fun hc => ?_) (fun _ => ?_)
      · have hc : nI 12 ≤ nI i := hc
        rw [nI_leI (by omega) (by omega)] at hc
        omega
      iterate 7 refine hV.go rfl ?_
      refine topI (V := V) (nI_add _ _) ?_
      refine hV.go rfl ?_
      refine Exists.intro (o + i) (And.intro rfl (And.intro (show o + i < 1728 by omega) ?_))
      refine topI (V := V) (show u.1 35 0 (o + i) = nI (f i) by rw [(hs 35 (by decide)).1]; exact hf i (by omega)) ?_
      iterate 2 refine hV.go rfl ?_
      refine Exists.intro (f i) (And.intro rfl (And.intro (show f i < 12 by omega) ?_))
      iterate 2 refine hV.go rfl ?_
      have := ih (i + 1) (by omega) (wI u 38 0 (f i) (nI i)) (Sm.wI (k := 38) hs (by decide)) (fun p hp => by
        by_cases e : p = i
        · rw [e, wI_eq]
        · rw [wI_ne (fun z => e (hpf.inj z.2.2))]
          exact hu p (by omega))
      rw [← nI_inc i] at this
      exact this
  iterate 2 refine hV.go rfl ?_
  exact loop 12 0 rfl w Sm.rf (fun p hp => by omega)
end
