/-! a chain grows: the pure side -/
def addM (s : CS) (k : Nat) (m : Nat → Nat) : CS := (cO s, cT s, fun j => if j = k then cM s k ++ [m] else cM s j)
theorem addM_O (s : CS) (k : Nat) (m : Nat → Nat) (j : Nat) : cO (addM s k m) j = cO s j := rfl
theorem addM_T (s : CS) (k : Nat) (m : Nat → Nat) (j : Nat) : cT (addM s k m) j = cT s j := rfl
theorem addM_M (s : CS) (k : Nat) (m : Nat → Nat) (j : Nat) : cM (addM s k m) j = if j = k then cM s k ++ [m] else cM s j := rfl
def Lo (k : Nat) (s s' : CS) : Prop := ∀ j, j < k → cO s' j = cO s j ∧ cT s' j = cT s j ∧ cM s' j = cM s j
theorem Lo.rf {k : Nat} {s : CS} : Lo k s s := fun _ _ => ⟨rfl, rfl, rfl⟩
theorem Lo.tr {k : Nat} {s s' s2 : CS} (h : Lo k s s') (h' : Lo k s' s2) : Lo k s s2 := fun j hj => ⟨(h' j hj).1.trans (h j hj).1, (h' j hj).2.1.trans (h j hj).2.1, (h' j hj).2.2.trans (h j hj).2.2⟩
theorem Lo.down {k j : Nat} {s s' : CS} (h : Lo k s s') (hj : j ≤ k) : Lo j s s' := fun i hi => h i (by omega)
def Grp (P : (Nat → Nat) → Prop) : Prop := P idp ∧ (∀ f g, P f → P g → P (cmp f g)) ∧ ∀ f, Pm f → P f → P (iv f)
theorem Grp.gen (S : List (Nat → Nat)) : Grp (Gen S) := ⟨Gen.id S, fun _ _ => Gen.mul, fun _ hp hf => Gen.iv hp hf⟩
def IRR (s : CS) (k : Nat) : Prop := ∀ j, k ≤ j → j < 12 → Irr (cM s j)
def EnlP (k : Nat) (m : Nat → Nat) (s s' : CS) : Prop := CW s' ∧ CC s' k ∧ cM s' k = cM s k ++ [m] ∧ Ext s s' ∧ Lo k s s' ∧ IRR s' k
def MetP (k : Nat) (r : Nat → Nat) (s s' : CS) : Prop := CW s' ∧ CC s' (k + 1) ∧ cM s' k = cM s k ∧ Ext s s' ∧ Lo k s s' ∧ IRR s' (k + 1) ∧ H s' k r ∧ (∃ t, cO s' k = cO s k ++ t) ∧
  ∀ P, Grp P → P r → (∀ p ∈ cO s k, P (cT s k p)) → (∀ g, Fx (k + 1) g → H s (k + 1) g → P g) → (∀ p ∈ cO s' k, P (cT s' k p)) ∧ ∀ g, Fx (k + 1) g → H s' (k + 1) g → P g
theorem H_congr {s s' : CS} : ∀ n k, k + n = 12 → (∀ j, k ≤ j → j < 12 → cO s' j = cO s j ∧ cT s' j = cT s j) → ∀ f, (H s' k f ↔ H s k f)
  | 0, k, hk, _, f => by
    have : k = 12 := by omega
    subst this
    exact ⟨fun _ => H_12 s f, fun _ => H_12 s' f⟩
  | n + 1, k, hk, h, f => by
    have hk : k < 12 := by omega
    rw [H_lt hk, H_lt hk, (h k (Nat.le_refl _) hk).1, (h k (Nat.le_refl _) hk).2, H_congr n (k + 1) (by omega) (fun j hj => h j (by omega))]
theorem CC.congr {s s' : CS} {k : Nat} (h : CC s k) (he : ∀ j, k ≤ j → j < 12 → cO s' j = cO s j ∧ cT s' j = cT s j ∧ cM s' j = cM s j) : CC s' k := fun j hj hj2 f hf => by
  rw [H_congr (12 - j) j (by omega) (fun i hi hi2 => ⟨(he i (by omega) hi2).1, (he i (by omega) hi2).2.1⟩), (he j hj hj2).2.2]
  exact h j hj hj2 f hf
theorem keep_CW {s : CS} {k : Nat} {r : Nat → Nat} (hcw : CW s) (hk : k < 12) (hr : Fx k r) (hn : r k ∉ cO s k) : CW (keep s k r) := by
  intro j hj
  obtain ⟨h1, h2, h3, h4, h5⟩ := hcw j hj
  by_cases e : j = k
  · subst e
    refine ⟨?_, ?_, ?_, ?_, ?_⟩
    · rw [keep_O, if_pos rfl]
      rw [List.nodup_append]
      refine ⟨h1, by simp, fun a ha b hb z => ?_⟩
      rw [List.mem_singleton] at hb
      subst hb
      subst z
      exact hn ha
    · rw [keep_O, if_pos rfl]
      exact List.mem_append_left _ h2
    · have : j ≠ r j := fun z => hn (by rw [← z]; exact h2)
      have e2 : cT (keep s j r) j j = cT s j j := by rw [keep_T, if_neg (fun z => this z.2)]
      rw [e2]
      exact h3
    · intro p hp
      rw [keep_O, if_pos rfl, List.mem_append, List.mem_singleton] at hp
      by_cases e2 : p = r j
      · have e3 : cT (keep s j r) j p = r := by rw [keep_T, if_pos ⟨rfl, e2⟩]
        rw [e3]
        refine ⟨?_, hr.1, e2.symm, hr.2⟩
        rw [e2]
        exact hr.1.1 j hj
      · have e3 : cT (keep s j r) j p = cT s j p := by rw [keep_T, if_neg (fun z => e2 z.2)]
        rw [e3]
        exact h4 p (hp.resolve_right e2)
    · exact h5
  · have e1 : cO (keep s k r) j = cO s j := by rw [keep_O, if_neg e]
    have e2 : ∀ p, cT (keep s k r) j p = cT s j p := fun p => by rw [keep_T, if_neg (fun z => e z.1)]
    rw [e1]
    refine ⟨h1, h2, by rw [e2]; exact h3, fun p hp => ?_, h5⟩
    rw [e2]
    exact h4 p hp
theorem keep_MetP {s : CS} {k : Nat} {r : Nat → Nat} (hcw : CW s) (hcc : CC s (k + 1)) (hir : IRR s (k + 1)) (hk : k < 12) (hr : Fx k r) (hn : r k ∉ cO s k) : MetP k r s (keep s k r) := by
  have hcw' := keep_CW hcw hk hr hn
  have hhi : ∀ j, k + 1 ≤ j → j < 12 → cO (keep s k r) j = cO s j ∧ cT (keep s k r) j = cT s j ∧ cM (keep s k r) j = cM s j := fun j hj _ => ⟨by rw [keep_O, if_neg (by omega)], funext fun p => by rw [keep_T, if_neg (fun z => by omega)], rfl⟩
  have hH : ∀ f, H (keep s k r) (k + 1) f ↔ H s (k + 1) f := H_congr (12 - (k + 1)) (k + 1) (by omega) (fun j hj hj2 => ⟨(hhi j hj hj2).1, (hhi j hj hj2).2.1⟩)
  have eT : cT (keep s k r) k (r k) = r := by rw [keep_T, if_pos ⟨rfl, rfl⟩]
  have eO : cO (keep s k r) k = cO s k ++ [r k] := by rw [keep_O, if_pos rfl]
  have eTo : ∀ p ∈ cO s k, cT (keep s k r) k p = cT s k p := fun p hp => by rw [keep_T, if_neg (fun z => hn (by rw [← z.2]; exact hp))]
  refine ⟨hcw', hcc.congr hhi, rfl, fun j hj p hp => ?_, fun j hj => ⟨by rw [keep_O, if_neg (by omega)], funext fun p => by rw [keep_T, if_neg (fun z => by omega)], rfl⟩, hir, ?_, ⟨[r k], eO⟩, fun P hP hPr hPT hPg => ⟨fun p hp => ?_, fun g hg hHg => hPg g hg ((hH g).mp hHg)⟩⟩
  · by_cases e : j = k
    · subst e
      rw [eO]
      exact ⟨List.mem_append_left _ hp, eTo p hp⟩
    · exact ⟨by rw [keep_O, if_neg e]; exact hp, by rw [keep_T, if_neg (fun z => e z.1)]⟩
  · rw [H_lt hk, eO, eT, cmp_iv hr.1]
    exact ⟨List.mem_append_right _ List.mem_cons_self, H_id hcw' (12 - (k + 1)) (k + 1) (by omega)⟩
  · rw [eO, List.mem_append, List.mem_singleton] at hp
    rcases hp with hp | rfl
    · rw [eTo p hp]
      exact hPT p hp
    · rw [eT]
      exact hPr
theorem rest_fx {s : CS} {k : Nat} {r : Nat → Nat} (hcw : CW s) (hk : k < 12) (hr : Fx k r) (hn : r k ∈ cO s k) : Fx (k + 1) (cmp r (iv (cT s k (r k)))) := by
  have hT := (hcw k hk).2.2.2.1 _ hn
  have hTf : Fx k (cT s k (r k)) := ⟨hT.2.1, hT.2.2.2⟩
  refine ⟨hr.1.cmp hT.2.1.iv, fun j hj => ?_⟩
  by_cases e : j = k
  · subst e
    show iv (cT s j (r j)) (r j) = j
    have := hT.2.1.iv_l j
    rwa [hT.2.2.1] at this
  · exact (hr.cmp hTf.iv).2 j (by omega)
theorem same_MetP {s : CS} {k : Nat} {r : Nat → Nat} (hcw : CW s) (hcc : CC s (k + 1)) (hir : IRR s (k + 1)) (hk : k < 12) (hn : r k ∈ cO s k) (hh : H s (k + 1) (cmp r (iv (cT s k (r k))))) : MetP k r s s :=
  ⟨hcw, hcc, rfl, Ext.rf, Lo.rf, hir, (H_lt hk r).mpr ⟨hn, hh⟩, ⟨[], by simp⟩, fun _ _ _ h1 h2 => ⟨h1, h2⟩⟩
theorem enl_MetP {s s' : CS} {k : Nat} {r : Nat → Nat} (hcw : CW s) (hcc : CC s (k + 1)) (hk : k + 1 < 12) (hr : Fx k r) (hn : r k ∈ cO s k) (he : EnlP (k + 1) (cmp r (iv (cT s k (r k)))) s s') : MetP k r s s' := by
  obtain ⟨e1, e2, e3, e4, e5, e6⟩ := he
  obtain ⟨l1, l2, l3⟩ := e5 k (by omega)
  have hT := (hcw k (by omega)).2.2.2.1 _ hn
  have hrf := rest_fx hcw (by omega) hr hn
  refine ⟨e1, e2, l3, e4, e5.down (by omega), e6, ?_, ⟨[], by rw [l1]; simp⟩, fun P hP hPr hPT hPg => ⟨fun p hp => ?_, fun g hg hHg => ?_⟩⟩
  · rw [H_lt (by omega), l1, l2]
    refine ⟨hn, (e2 (k + 1) (Nat.le_refl _) hk _ hrf).mpr (Gen.of ?_)⟩
    rw [e3]
    exact List.mem_append_right _ List.mem_cons_self
  · rw [l1] at hp
    rw [l2]
    exact hPT p hp
  · have hg2 := (e2 (k + 1) (Nat.le_refl _) hk g hg).mp hHg
    rw [e3] at hg2
    refine Gen.ind hP.1 hP.2.1 (fun x hx => ?_) hg2
    rw [List.mem_append, List.mem_singleton] at hx
    rcases hx with hx | rfl
    · have hxf : Fx (k + 1) x := (hcw (k + 1) hk).2.2.2.2 x hx
      exact hPg x hxf ((hcc (k + 1) (Nat.le_refl _) hk x hxf).mpr (Gen.of hx))
    · exact hP.2.1 _ _ hPr (hP.2.2 _ hT.2.1 (hPT _ hn))
/-- between the meetings of a level -/
def EnlI (k : Nat) (m : Nat → Nat) (s s' : CS) : Prop := CW s' ∧ CC s' (k + 1) ∧ cM s' k = cM s k ++ [m] ∧ Ext s s' ∧ Lo k s s' ∧ IRR s' (k + 1) ∧ (∃ t, cO s' k = cO s k ++ t) ∧ (∀ p ∈ cO s' k, Gen (cM s' k) (cT s' k p)) ∧ ∀ g, Fx (k + 1) g → H s' (k + 1) g → Gen (cM s' k) g
theorem EnlI.first {s : CS} {k : Nat} {m : Nat → Nat} (hcw : CW s) (hcc : CC s k) (hir : IRR s k) (hk : k < 12) (hm : Fx k m) : EnlI k m s (addM s k m) := by
  have eM : cM (addM s k m) k = cM s k ++ [m] := by rw [addM_M, if_pos rfl]
  have hhi : ∀ j, k + 1 ≤ j → j < 12 → cO (addM s k m) j = cO s j ∧ cT (addM s k m) j = cT s j ∧ cM (addM s k m) j = cM s j := fun j hj _ => ⟨rfl, rfl, by rw [addM_M, if_neg (by omega)]⟩
  have hH : ∀ j f, j ≤ 12 → (H (addM s k m) j f ↔ H s j f) := fun j f hj => H_congr (s := s) (s' := addM s k m) (12 - j) j (by omega) (fun _ _ _ => ⟨rfl, rfl⟩) f
  refine ⟨fun j hj => ?_, (hcc.up (by omega)).congr hhi, eM, fun j hj p hp => ⟨hp, rfl⟩, fun j hj => ⟨rfl, rfl, by rw [addM_M, if_neg (by omega)]⟩, fun j hj hj2 => ?_, ⟨[], by rw [addM_O]; simp⟩, fun p hp => ?_, fun g hg hHg => ?_⟩
  · obtain ⟨h1, h2, h3, h4, h5⟩ := hcw j hj
    refine ⟨h1, h2, h3, h4, fun f hf => ?_⟩
    by_cases e : j = k
    · subst e
      rw [eM, List.mem_append, List.mem_singleton] at hf
      rcases hf with hf | rfl
      · exact h5 f hf
      · exact hm
    · rw [addM_M, if_neg e] at hf
      exact h5 f hf
  · rw [(hhi j hj hj2).2.2]
    exact hir j (by omega) hj2
  · rw [eM]
    have hT := (hcw k hk).2.2.2.1 p hp
    have hTf : Fx k (cT s k p) := ⟨hT.2.1, hT.2.2.2⟩
    have : H s k (cT s k p) := (H_split hcw hk hTf).mpr ⟨p, hp, idp, Fx.id _, H_id hcw (12 - (k + 1)) (k + 1) (by omega), rfl⟩
    exact ((hcc k (Nat.le_refl _) hk _ hTf).mp this).mono (fun x hx => List.mem_append_left _ hx)
  · rw [eM]
    have h1 := (hH (k + 1) g (by omega)).mp hHg
    have hgk := hg.mono (show k ≤ k + 1 by omega)
    have : H s k g := (H_split hcw hk hgk).mpr ⟨k, (hcw k hk).2.1, g, hg, h1, by rw [(hcw k hk).2.2.1, cmp_id]⟩
    exact ((hcc k (Nat.le_refl _) hk _ hgk).mp this).mono (fun x hx => List.mem_append_left _ hx)
theorem EnlI.met {s s' s2 : CS} {k : Nat} {m r : Nat → Nat} (h : EnlI k m s s') (hr : Gen (cM s' k) r) (h2 : MetP k r s' s2) : EnlI k m s s2 := by
  obtain ⟨a1, a2, a3, a4, a5, a6, ⟨t, a7⟩, a8, a9⟩ := h
  obtain ⟨b1, b2, b3, b4, b5, b6, b7, ⟨t2, b8⟩, b9⟩ := h2
  obtain ⟨c1, c2⟩ := b9 (Gen (cM s' k)) (Grp.gen _) hr a8 a9
  refine ⟨b1, b2, b3.trans a3, a4.tr b4, a5.tr b5, b6, ⟨t ++ t2, by rw [b8, a7, List.append_assoc]⟩, ?_, ?_⟩
  · rw [b3]
    exact c1
  · rw [b3]
    exact c2
theorem EnlI.old {s s' : CS} {k : Nat} {m : Nat → Nat} (h : EnlI k m s s') (hcw : CW s) (hcc : CC s k) (hk : k < 12) {p : Nat} (hp : p ∈ cO s k) {x : Nat → Nat} (hx : x ∈ cM s k) : H s' k (cmp (cT s' k p) x) := by
  rw [(h.2.2.2.1 k hk p hp).2]
  have hT := (hcw k hk).2.2.2.1 p hp
  have hTf : Fx k (cT s k p) := ⟨hT.2.1, hT.2.2.2⟩
  have h1 : H s k (cT s k p) := (H_split hcw hk hTf).mpr ⟨p, hp, idp, Fx.id _, H_id hcw (12 - (k + 1)) (k + 1) (by omega), rfl⟩
  have hxf : Fx k x := (hcw k hk).2.2.2.2 x hx
  exact h.2.2.2.1.H (12 - k) k (by omega) _ (hcc.mul (by omega) hTf hxf h1 ((hcc k (Nat.le_refl _) hk x hxf).mpr (Gen.of hx)))
theorem EnlI.last {s s' : CS} {k : Nat} {m : Nat → Nat} (h : EnlI k m s s') (hir : IRR s k) (hcc : CC s k) (hk : k < 12) (hm : Fx k m) (hn : ¬ H s k m) (hall : ∀ p ∈ cO s' k, ∀ x ∈ cM s' k, H s' k (cmp (cT s' k p) x)) : EnlP k m s s' := by
  obtain ⟨a1, a2, a3, a4, a5, a6, a7, a8, a9⟩ := h
  refine ⟨a1, a2.step (fun _ => close a1 hk a2 hall a8 a9), a3, a4, a5, fun j hj hj2 => ?_⟩
  by_cases e : j = k
  · subst e
    rw [a3]
    exact (hir j (Nat.le_refl _) hj2).add (fun z => hn ((hcc j (Nat.le_refl _) hj2 m hm).mpr z))
  · exact a6 j (by omega) hj2
