/-! the ball is filled -/
def MvW (w : Wd) (mv : List (Nat → Nat)) : Prop := mv.length ≤ 10 ∧ (∀ f ∈ mv, Pm f) ∧ ∀ i f, mv[i]? = some f → w.2 4 0 i = rw f
theorem MvW.sm {w u : Wd} {mv : List (Nat → Nat)} {ks : List Nat} (h : MvW w mv) (hs : Sm ks w u) (hk : 4 ∉ ks) : MvW u mv := ⟨h.1, h.2.1, fun i f hf => by rw [(hs 4 hk).2]; exact h.2.2 i f hf⟩
/-- so many moves lead from the solved one to it -/
def Rn (mv : List (Nat → Nat)) : Nat → (Nat → Nat) → Prop
  | 0, f => f = idp
  | n + 1, f => ∃ g m, Rn mv n g ∧ m ∈ mv ∧ f = cmp g m
def Dst (mv : List (Nat → Nat)) (f : Nat → Nat) (d : Nat) : Prop := Rn mv d f ∧ ∀ n, n < d → ¬ Rn mv n f
theorem Rn.pm {mv : List (Nat → Nat)} (hm : ∀ f ∈ mv, Pm f) : ∀ n f, Rn mv n f → Pm f
  | 0, f, h => by rw [show f = idp from h]; exact Pm.id
  | n + 1, f, ⟨g, m, hg, hmm, e⟩ => by rw [e]; exact (Rn.pm hm n g hg).cmp (hm m hmm)
theorem Dst.uniq {mv : List (Nat → Nat)} {f : Nat → Nat} {d d' : Nat} (h : Dst mv f d) (h' : Dst mv f d') : d = d' := by
  rcases Nat.lt_trichotomy d d' with q | q | q
  · exact absurd h.1 (h'.2 d q)
  · exact q
  · exact absurd h'.1 (h.2 d' q)
theorem Dst.le {mv : List (Nat → Nat)} {f : Nat → Nat} {d n : Nat} (h : Dst mv f d) (h' : Rn mv n f) : d ≤ n := by
  rcases Nat.lt_or_ge n d with q | q
  · exact absurd h' (h.2 n q)
  · exact q
/-- all that is so near, with its distances, the nearer ones first -/
def BaS (mv : List (Nat → Nat)) (rad : Nat) (B : BL) : Prop := (∀ x ∈ B, Dst mv x.1 x.2) ∧ (∀ n f, n ≤ rad → Rn mv n f → ∃ x ∈ B, x.1 = f) ∧ (∀ (i j : Nat) (x y : (Nat → Nat) × Nat), i ≤ j → B[i]? = some x → B[j]? = some y → x.2 ≤ y.2) ∧ 0 < B.length ∧ ∀ x ∈ B, x.2 ≤ rad
/-- while it is filled: all before i are through -/
def BaI (mv : List (Nat → Nat)) (rad i : Nat) (B : BL) : Prop := (∀ x ∈ B, Dst mv x.1 x.2) ∧ (∀ (i j : Nat) (x y : (Nat → Nat) × Nat), i ≤ j → B[i]? = some x → B[j]? = some y → x.2 ≤ y.2) ∧ (∀ x : (Nat → Nat) × Nat, B[i]? = some x → ∀ y ∈ B, y.2 ≤ x.2 + 1) ∧ (∀ i' x, i' < i → B[i']? = some x → ∀ m ∈ mv, ∃ y ∈ B, y.1 = cmp x.1 m) ∧ (∃ x ∈ B, x.1 = idp) ∧ (∀ x ∈ B, x.2 ≤ rad) ∧ i ≤ B.length
theorem BaI.near {mv : List (Nat → Nat)} {rad i : Nat} {B : BL} (h : BaI mv rad i B) {x : (Nat → Nat) × Nat} (hx : B[i]? = some x) : ∀ n f, n ≤ x.2 → Rn mv n f → ∃ y ∈ B, y.1 = f
  | 0, f, _, hf => by
    rw [show f = idp from hf]
    exact h.2.2.2.2.1
  | n + 1, f, hn, ⟨g, m, hg, hm, e⟩ => by
    obtain ⟨y, hy, ey⟩ := BaI.near h hx n g (by omega) hg
    obtain ⟨j, hj⟩ := List.getElem?_of_mem hy
    have hd : y.2 ≤ n := (h.1 y hy).le (by rw [ey]; exact hg)
    have hji : j < i := by
      rcases Nat.lt_or_ge j i with q | q
      · exact q
      · have := h.2.1 i j x y q hx hj
        omega
    obtain ⟨z, hz, ez⟩ := h.2.2.2.1 j y hji hj m hm
    exact ⟨z, hz, by rw [ez, ey, e]⟩
theorem BaI.done {mv : List (Nat → Nat)} {rad i : Nat} {B : BL} (h : BaI mv rad i B) (he : B.length ≤ i ∨ ∃ x, B[i]? = some x ∧ rad ≤ x.2) : BaS mv rad B := by
  refine ⟨h.1, ?_, h.2.1, ?_, h.2.2.2.2.2.1⟩
  · intro n
    induction n with
    | zero =>
      intro f _ hf
      rw [show f = idp from hf]
      exact h.2.2.2.2.1
    | succ n ih =>
      rintro f hn ⟨g, m, hg, hm, e⟩
      obtain ⟨y, hy, ey⟩ := ih g (by omega) hg
      obtain ⟨j, hj⟩ := List.getElem?_of_mem hy
      have hd : y.2 ≤ n := (h.1 y hy).le (by rw [ey]; exact hg)
      have hjl := (List.getElem?_eq_some_iff.mp hj).1
      have hji : j < i := by
        rcases he with he | ⟨x, hx, hr⟩
        · omega
        · rcases Nat.lt_or_ge j i with q | q
          · exact q
          · have := h.2.1 i j x y q hx hj
            omega
      obtain ⟨z, hz, ez⟩ := h.2.2.2.1 j y hji hj m hm
      exact ⟨z, hz, by rw [ez, ey, e]⟩
  · obtain ⟨x, hx, -⟩ := h.2.2.2.2.1
    exact List.length_pos_of_mem hx
/-- between the moves of one: some m are through -/
def BaJ (mv : List (Nat → Nat)) (rad i j : Nat) (B : BL) : Prop := BaI mv rad i B ∧ ∃ x, B[i]? = some x ∧ x.2 < rad ∧ ∀ j' m, j' < j → mv[j']? = some m → ∃ y ∈ B, y.1 = cmp x.1 m
theorem BaJ.add {mv : List (Nat → Nat)} {rad i j : Nat} {B : BL} (h : BaJ mv rad i j B) {x : (Nat → Nat) × Nat} {m : Nat → Nat} (hx : B[i]? = some x) (hm : mv[j]? = some m) (hn : ∀ y ∈ B, y.1 ≠ cmp x.1 m) : BaJ mv rad i (j + 1) (B ++ [(cmp x.1 m, x.2 + 1)]) := by
  obtain ⟨hI, x', hx', hr, hall⟩ := h
  rw [hx] at hx'
  cases hx'
  have hmm := List.mem_of_getElem? hm
  have hxm := List.mem_of_getElem? hx
  have hD : Dst mv (cmp x.1 m) (x.2 + 1) := by
    refine ⟨⟨x.1, m, (hI.1 x hxm).1, hmm, rfl⟩, fun n hn2 hR => ?_⟩
    obtain ⟨y, hy, e⟩ := hI.near hx n _ (by omega) hR
    exact hn y hy e
  have hil := (List.getElem?_eq_some_iff.mp hx).1
  have hx2 : (B ++ [(cmp x.1 m, x.2 + 1)])[i]? = some x := by rw [List.getElem?_append_left hil]; exact hx
  have memo : ∀ y, y ∈ B ++ [(cmp x.1 m, x.2 + 1)] → y ∈ B ∨ y = (cmp x.1 m, x.2 + 1) := fun y hy => by
    rw [List.mem_append, List.mem_singleton] at hy
    exact hy
  have bd : ∀ y ∈ B ++ [(cmp x.1 m, x.2 + 1)], y.2 ≤ x.2 + 1 := fun y hy => by
    rcases memo y hy with hy | rfl
    · exact hI.2.2.1 x hx y hy
    · exact Nat.le_refl _
  refine ⟨⟨fun y hy => ?_, fun a b y z hab hy hz => ?_, fun y hy => ?_, fun i' y hi' hy q hq => ?_, ?_, fun y hy => ?_, ?_⟩, x, hx2, hr, fun j' q hj' hq => ?_⟩
  · rcases memo y hy with hy | rfl
    · exact hI.1 y hy
    · exact hD
  · by_cases hb : b < B.length
    · rw [List.getElem?_append_left hb] at hz
      rw [List.getElem?_append_left (by omega)] at hy
      exact hI.2.1 a b y z hab hy hz
    · rw [List.getElem?_append_right (by omega)] at hz
      have hb2 : b - B.length < 1 := (List.getElem?_eq_some_iff.mp hz).1
      rw [show b - B.length = 0 by omega] at hz
      cases hz
      exact bd y (List.mem_of_getElem? hy)
  · rw [hx2] at hy
    cases hy
    exact bd
  · rw [List.getElem?_append_left (by omega)] at hy
    obtain ⟨z, hz, e⟩ := hI.2.2.2.1 i' y hi' hy q hq
    exact ⟨z, List.mem_append_left _ hz, e⟩
  · obtain ⟨z, hz, e⟩ := hI.2.2.2.2.1
    exact ⟨z, List.mem_append_left _ hz, e⟩
  · have := bd y hy
    omega
  · simp only [List.length_append, List.length_cons, List.length_nil]
    omega
  · by_cases e : j' = j
    · subst e
      rw [hm] at hq
      cases hq
      exact ⟨_, List.mem_append_right _ List.mem_cons_self, rfl⟩
    · obtain ⟨z, hz, e⟩ := hall j' q (by omega) hq
      exact ⟨z, List.mem_append_left _ hz, e⟩
theorem BaJ.same {mv : List (Nat → Nat)} {rad i j : Nat} {B : BL} (h : BaJ mv rad i j B) {x : (Nat → Nat) × Nat} {m : Nat → Nat} (hx : B[i]? = some x) (hm : mv[j]? = some m) (hn : ∃ y ∈ B, y.1 = cmp x.1 m) : BaJ mv rad i (j + 1) B := by
  obtain ⟨hI, x', hx', hr, hall⟩ := h
  rw [hx] at hx'
  cases hx'
  refine ⟨hI, x, hx, hr, fun j' q hj' hq => ?_⟩
  by_cases e : j' = j
  · subst e
    rw [hm] at hq
    cases hq
    exact hn
  · exact hall j' q (by omega) hq
theorem BaJ.next {mv : List (Nat → Nat)} {rad i : Nat} {B : BL} (h : BaJ mv rad i mv.length B) : BaI mv rad (i + 1) B := by
  obtain ⟨hI, x, hx, hr, hall⟩ := h
  have hil := (List.getElem?_eq_some_iff.mp hx).1
  refine ⟨hI.1, hI.2.1, fun z hz y hy => ?_, fun i' y hi' hy m hm => ?_, hI.2.2.2.2.1, hI.2.2.2.2.2.1, hil⟩
  · have h1 := hI.2.1 i (i + 1) x z (by omega) hx hz
    have h2 := hI.2.2.1 x hx y hy
    omega
  · by_cases e : i' = i
    · subst e
      rw [hx] at hy
      cases hy
      obtain ⟨j, hj⟩ := List.getElem?_of_mem hm
      exact hall j m (List.getElem?_eq_some_iff.mp hj).1 hj
    · exact hI.2.2.2.1 i' y (by omega) hy m hm
section
variable {l : Launch} {E : En}
/-- Arrays.fill over the slots -/
theorem c_fillI {w : Wd} {x : Int32} (G : GC l E) : Ctr l E 1 0 mJ7_fill_53178 [vR 12, vI x] w (fun r u => r = none ∧ u.2 = w.2 ∧ (∀ a b c, u.1 a b c = if a = 12 ∧ b = 0 ∧ c < 4096 then x else w.1 a b c)) noX := by
  refine Ctr.of (tw := []) G.1 G.2 oJ7_ok pgJ7_fill_53178 rfl (by decide) rfl rfl (Nat.le_of_ble_eq_true rfl) ?_
  intro V hV
  have loop : ∀ n j : Nat, j + n = 4096 → ∀ u : Wd, u.2 = w.2 → (∀ a b c, u.1 a b c = if a = 12 ∧ b = 0 ∧ c < j then x else w.1 a b c) → V 5 [some (vR 12), some (vI x), some (vI (nI j)), some (vI (nI 4096))] [] u 0 := by
    intro n
    induction n with
    | zero =>
      intro j hj u h1 h2
      have : j = 4096 := by omega
      subst this
      repeat refine hV.go rfl ?_
      refine And.intro (fun hc => ?_) (fun hc => ?_)
      · repeat refine hV.go rfl ?_
        exact ⟨⟨rfl, h1, h2⟩, Nat.le_refl _⟩
      · exact absurd (show nI 4096 ≤ nI 4096 from nI_le (Nat.le_refl _) (by omega)) hc
    | succ n ih =>
      intro j hj u h1 h2
      repeat refine hV.go rfl ?_
      refine And.intro (fun hc => ?_) (fun hc => ?_)
      · have hc : nI 4096 ≤ nI j := hc
        rw [nI_leI (by omega) (by omega)] at hc
        omega
      · repeat refine hV.go rfl ?_
        refine Exists.intro j (And.intro rfl (And.intro (show j < 4096 by omega) ?_))
        iterate 2 refine hV.go rfl ?_
        have := ih (j + 1) (by omega) (wI u 12 0 j x) h1 (fun a b c => by
          rw [wI_get, h2]
          by_cases e : a = 12 ∧ b = 0
          · obtain ⟨rfl, rfl⟩ := e
            by_cases e3 : c = j
            · subst e3
              simp
            · by_cases e4 : c < j
              · simp [e3, e4, show c < j + 1 by omega]
              · simp [e3, e4, show ¬ c < j + 1 by omega]
          · rw [if_neg (fun z => e ⟨z.1, z.2.1⟩), if_neg (fun z => e ⟨z.1, z.2.1⟩), if_neg (fun z => e ⟨z.1, z.2.1⟩)])
        rw [← nI_inc] at this
        exact this
  iterate 5 refine hV.go rfl ?_
  exact loop 4096 0 (by omega) w rfl (fun a b c => by simp)
end
