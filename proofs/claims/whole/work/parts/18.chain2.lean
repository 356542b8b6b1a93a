/-! what a world holds behind a store; worlds that differ in some kinds alone -/
theorem wI_get (w : Wd) (k i j : Nat) (x : Int32) (a b c : Nat) : (wI w k i j x).1 a b c = if a = k ∧ b = i ∧ c = j then x else w.1 a b c := by
  unfold wI
  by_cases h : a = k ∧ b = i
  · obtain ⟨rfl, rfl⟩ := h
    simp [upd]
  · simp only [h, if_false]
    rw [if_neg (fun z => h ⟨z.1, z.2.1⟩)]
theorem wI_2 (w : Wd) (k i j : Nat) (x : Int32) : (wI w k i j x).2 = w.2 := rfl
theorem wJ_get (w : Wd) (k i j : Nat) (x : Int64) (a b c : Nat) : (wJ w k i j x).2 a b c = if a = k ∧ b = i ∧ c = j then x else w.2 a b c := by
  unfold wJ
  by_cases h : a = k ∧ b = i
  · obtain ⟨rfl, rfl⟩ := h
    simp [vp_updL]
  · simp only [h, if_false]
    rw [if_neg (fun z => h ⟨z.1, z.2.1⟩)]
theorem wJ_1 (w : Wd) (k i j : Nat) (x : Int64) : (wJ w k i j x).1 = w.1 := rfl
def Sm (ks : List Nat) (w u : Wd) : Prop := ∀ k, k ∉ ks → u.1 k = w.1 k ∧ u.2 k = w.2 k
theorem Sm.rf {ks : List Nat} {w : Wd} : Sm ks w w := fun _ _ => ⟨rfl, rfl⟩
theorem Sm.tr {ks : List Nat} {w u v : Wd} (h1 : Sm ks w u) (h2 : Sm ks u v) : Sm ks w v := fun k hk => ⟨(h2 k hk).1.trans (h1 k hk).1, (h2 k hk).2.trans (h1 k hk).2⟩
theorem Sm.mono {ks ks' : List Nat} {w u : Wd} (h : Sm ks w u) (hs : ∀ k ∈ ks, k ∈ ks') : Sm ks' w u := fun k hk => h k (fun z => hk (hs k z))
theorem Sm.wI {ks : List Nat} {w u : Wd} {k i j : Nat} {x : Int32} (h : Sm ks w u) (hk : k ∈ ks) : Sm ks w (wI u k i j x) := fun a ha => ⟨by
  rw [← (h a ha).1]
  funext b
  exact if_neg (fun z => ha (by rw [z.1]; exact hk)), (h a ha).2⟩
theorem Sm.wJ {ks : List Nat} {w u : Wd} {k i j : Nat} {x : Int64} (h : Sm ks w u) (hk : k ∈ ks) : Sm ks w (wJ u k i j x) := fun a ha => ⟨(h a ha).1, by
  rw [← (h a ha).2]
  funext b
  exact if_neg (fun z => ha (by rw [z.1]; exact hk))⟩
/-- a taker more at level k -/
def keep (s : CS) (k : Nat) (f : Nat → Nat) : CS := (fun j => if j = k then cO s k ++ [f k] else cO s j, fun j p => if j = k ∧ p = f k then f else cT s j p, cM s)
theorem keep_O (s : CS) (k : Nat) (f : Nat → Nat) (j : Nat) : cO (keep s k f) j = if j = k then cO s k ++ [f k] else cO s j := rfl
theorem keep_T (s : CS) (k : Nat) (f : Nat → Nat) (j p : Nat) : cT (keep s k f) j p = if j = k ∧ p = f k then f else cT s j p := rfl
theorem keep_M (s : CS) (k : Nat) (f : Nat → Nat) : cM (keep s k f) = cM s := rfl
abbrev chK : List Nat := [14, 16, 18, 20, 21, 22]
theorem nodup_len {l : List Nat} {n : Nat} (hd : l.Nodup) (h : ∀ p ∈ l, p < n) : l.length ≤ n := by
  refine fb_holes n l.length (fun i => l.getD i 0) (fun i hi => ?_) (fun i j hij hj e => ?_)
  · have : l.getD i 0 = l[i] := by simp [List.getD_eq_getElem?_getD, hi]
    simp only [this]
    exact h _ (List.getElem_mem hi)
  · have hi : i < l.length := by omega
    have e1 : l.getD i 0 = l[i] := by simp [List.getD_eq_getElem?_getD, hi]
    have e2 : l.getD j 0 = l[j] := by simp [List.getD_eq_getElem?_getD, hj]
    simp only [e1, e2] at e
    have : l[i]? = l[j]? := by rw [List.getElem?_eq_getElem hi, List.getElem?_eq_getElem hj, e]
    have := (List.getElem?_inj hi hd).mp this
    omega
section
variable {l : Launch} {E : En}
theorem keep_W {w : Wd} {s : CS} {k : Nat} {f : Nat → Nat} (hw : ChW w s) (hk : k < 12) (hf : Pm f) (hlen : (cO s k).length < 12) (hn : f k ∉ cO s k) :
    ChW (wI (wI (wJ (wJ w 16 k (f k) (rw f)) 18 k (f k) (rw (iv f))) 20 k (cO s k).length (nI (f k))) 22 0 k (nI ((cO s k).length + 1))) (keep s k f) := by
  intro j hj
  obtain ⟨h1, h2, h3, h4, h5, h6, h7⟩ := hw j hj
  unfold ChL
  rw [keep_O, keep_M]
  by_cases e : j = k
  · subst e
    rw [if_pos rfl]
    refine ⟨?_, h2, ?_, ?_, ?_, ?_, ?_⟩
    · simp only [List.length_append, List.length_cons, List.length_nil]; omega
    · simp [wI_get]
    · simp only [wI_get, wJ_1]
      simpa using h4
    · intro i p hip
      by_cases hi : i < (cO s j).length
      · rw [List.getElem?_append_left hi] at hip
        simp only [wI_get, wJ_1]
        simp [show ¬ i = (cO s j).length by omega]
        exact h5 i p hip
      · rw [List.getElem?_append_right (by omega)] at hip
        have hi2 : i - (cO s j).length < 1 := (List.getElem?_eq_some_iff.mp hip).1
        have hi3 : i = (cO s j).length := by omega
        subst hi3
        simp at hip
        subst hip
        simp [wI_get]
    · intro i g hg
      simp only [wI_2, wJ_get]
      simpa using h6 i g hg
    · intro p hp
      obtain ⟨h8, h9⟩ := h7 p hp
      rw [keep_T]
      simp only [wI_2, wJ_get]
      by_cases e2 : p = f j
      · subst e2
        simp
      · refine ⟨fun z => ?_, fun z => ?_⟩
        · have z : p ∈ cO s j := by simpa [e2] using z
          simp [e2, h8 z]
        · have z : p ∉ cO s j := fun y => z (by simp [y])
          simp [e2, h9 z]
  · rw [if_neg e]
    refine ⟨h1, h2, ?_, ?_, ?_, ?_, ?_⟩
    · simp only [wI_get, wJ_1]
      simpa [e] using h3
    · simp only [wI_get, wJ_1]
      simpa using h4
    · intro i p hip
      simp only [wI_get, wJ_1]
      simpa [e] using h5 i p hip
    · intro i g hg
      simp only [wI_2, wJ_get]
      simpa using h6 i g hg
    · intro p hp
      rw [keep_T]
      simpa [e, wI_2, wJ_get] using h7 p hp
theorem c_keepTakerG {w : Wd} {k n : Nat} {f : Nat → Nat} {po : Option AV → Wd → Prop} (G : GC l E) (h3 : w.1 22 0 k = nI n) (hk : k < 12) (hf : Pm f) (hlen : n < 12)
    (hpo : po none (wI (wI (wJ (wJ w 16 k (f k) (rw f)) 18 k (f k) (rw (iv f))) 20 k n (nI (f k))) 22 0 k (nI (n + 1)))) : Ctr l E 2 0 mX1_keepTaker [vR 2, vI (nI k), vJ (rw f)] w po noX := by
  refine Ctr.of (tw := []) G.1 G.2 oX1_ok pgX1_keepTaker rfl (by decide) rfl rfl (Nat.le_of_ble_eq_true rfl) ?_
  intro V hV
  have hfk := hf.1 k hk
  repeat refine hV.go rfl ?_
  refine And.intro (callP_v (c_at G hf.lt16 hk w) (by decide) (by decide) ?_) trivial
  repeat refine hV.go rfl ?_
  refine Exists.intro k (And.intro rfl (And.intro hk ?_))
  repeat refine hV.go rfl ?_
  refine And.intro hk (Exists.intro (f k) (And.intro rfl (And.intro hfk ?_)))
  repeat refine hV.go rfl ?_
  refine Exists.intro k (And.intro rfl (And.intro hk ?_))
  repeat refine hV.go rfl ?_
  refine And.intro (callP_v (c_back G hf _) (by decide) (by decide) ?_) trivial
  repeat refine hV.go rfl ?_
  refine And.intro hk (Exists.intro (f k) (And.intro rfl (And.intro hfk ?_)))
  repeat refine hV.go rfl ?_
  refine Exists.intro k (And.intro rfl (And.intro hk ?_))
  repeat refine hV.go rfl ?_
  refine Exists.intro k (And.intro rfl (And.intro hk ?_))
  refine topI (V := V) h3 ?_
  repeat refine hV.go rfl ?_
  refine And.intro hk (Exists.intro n (And.intro rfl (And.intro hlen ?_)))
  repeat refine hV.go rfl ?_
  refine Exists.intro k (And.intro rfl (And.intro hk ?_))
  have e1 : (wI (wJ (wJ w 16 k (f k) (rw f)) 18 k (f k) (rw (iv f))) 20 k n (nI (f k))).1 22 0 k = nI n := by
    simp only [wI_get, wJ_1]
    simpa using h3
  refine topI (V := V) e1 ?_
  iterate 2 refine hV.go rfl ?_
  refine topI (V := V) (nI_1 _) ?_
  refine hV.go rfl ?_
  refine Exists.intro k (And.intro rfl (And.intro hk ?_))
  refine hV.go rfl ?_
  exact ⟨hpo, Nat.le_refl _⟩
theorem c_keepTaker {w : Wd} {s : CS} {k : Nat} {f : Nat → Nat} {po : Option AV → Wd → Prop} (G : GC l E) (hw : ChW w s) (hk : k < 12) (hf : Pm f) (hlen : (cO s k).length < 12) (hn : f k ∉ cO s k) (hpo : ∀ u, ChW u (keep s k f) → Sm chK w u → po none u) : Ctr l E 2 0 mX1_keepTaker [vR 2, vI (nI k), vJ (rw f)] w po noX :=
  c_keepTakerG G (hw k hk).2.2.1 hk hf hlen (hpo _ (keep_W hw hk hf hlen hn) (Sm.wI (k := 22) (Sm.wI (k := 20) (Sm.wJ (k := 18) (Sm.wJ (k := 16) Sm.rf (by decide)) (by decide)) (by decide)) (by decide)))
/-- Arrays.fill over a row of takers -/
theorem c_fillJ {w : Wd} {q : Nat} {x : Int64} (G : GC l E) (hq : q < 12) : Ctr l E 1 0 mJ7_fill_d0a16 [vQ 16 q, vJ x] w (fun r u => r = none ∧ u.1 = w.1 ∧ (∀ a b c, u.2 a b c = if a = 16 ∧ b = q ∧ c < 12 then x else w.2 a b c)) noX := by
  refine Ctr.of (tw := []) G.1 G.2 oJ7_ok pgJ7_fill_d0a16 rfl (by decide) rfl rfl (Nat.le_of_ble_eq_true rfl) ?_
  intro V hV
  have loop : ∀ n j : Nat, j + n = 12 → ∀ u : Wd, u.1 = w.1 → (∀ a b c, u.2 a b c = if a = 16 ∧ b = q ∧ c < j then x else w.2 a b c) → V 6 [some (vQ 16 q), some (vJ x), none, some (vI (nI j)), some (vI (nI 12))] [] u 0 := by
    intro n
    induction n with
    | zero =>
      intro j hj u h1 h2
      have : j = 12 := by omega
      subst this
      repeat refine hV.go rfl ?_
      refine And.intro (fun hc => ?_) (fun hc => ?_)
      · repeat refine hV.go rfl ?_
        exact ⟨⟨rfl, h1, h2⟩, Nat.le_refl _⟩
      · exact absurd (show nI 12 ≤ nI 12 from nI_le (Nat.le_refl _) (by omega)) hc
    | succ n ih =>
      intro j hj u h1 h2
      repeat refine hV.go rfl ?_
      refine And.intro (fun hc => ?_) (fun hc => ?_)
      · have hc : nI 12 ≤ nI j := hc
        rw [nI_leI (by omega) (by omega)] at hc
        omega
      · repeat refine hV.go rfl ?_
        refine And.intro hq (Exists.intro j (And.intro rfl (And.intro (by omega) ?_)))
        iterate 2 refine hV.go rfl ?_
        have := ih (j + 1) (by omega) (wJ u 16 q j x) h1 (fun a b c => by
          rw [wJ_get, h2]
          by_cases e : a = 16 ∧ b = q
          · obtain ⟨rfl, rfl⟩ := e
            by_cases e3 : c = j
            · subst e3
              simp
            · by_cases e4 : c < j
              · simp [e3, e4, show c < j + 1 by omega]
              · simp [e3, e4, show ¬ c < j + 1 by omega]
          · rw [if_neg (fun z => e ⟨z.1, z.2.1⟩), if_neg (fun z => e ⟨z.1, z.2.1⟩), if_neg (fun z => e ⟨z.1, z.2.1⟩)])
        rw [← nI_inc] at this
        exact this
  repeat refine hV.go rfl ?_
  refine And.intro hq ?_
  iterate 1 refine hV.go rfl ?_
  exact loop 12 0 (by omega) w rfl (fun a b c => by simp)
end
