/-! the class's state: stickers, turns, table, solution, and what the chain and the ball hold -/
theorem callP_x {l : Launch} {E : En} {D B d b : Nat} {mi : MI} {As : List AV} {w : Wd} {c : Nat} {K : Option AV → Wd → Nat → Prop} {X : String → Wd → Nat → Prop} {po : Option AV → Wd → Prop} {xo : String → Wd → Prop} (h : Ctr l E d b mi As w po xo) (hd : d < D) (hb : c + b ≤ B) (k : ∀ r u, po r u → K r u (c + b)) (x : ∀ Y u, xo Y u → X Y u (c + b)) : callP l E D B mi As w c K X := ⟨d, b, po, xo, hd, hb, h, k, x⟩
theorem bnd (x : Int32) {n : Nat} (hn : n < 2 ^ 31) : (∃ k, k < n ∧ x = nI k) ∨ (x < 0 ∨ nI n ≤ x) := by
  by_cases h : x < 0
  · exact Or.inr (Or.inl h)
  · obtain ⟨j, hj, rfl⟩ := nI_of h
    by_cases h2 : j < n
    · exact Or.inl ⟨j, h2, rfl⟩
    · exact Or.inr (Or.inr (nI_le (by omega) hj))
theorem bnd_no {k n : Nat} (hk : k < n) (hn : n < 2 ^ 31) (h : nI k < 0 ∨ nI n ≤ nI k) : False := by
  rcases h with h | h
  · exact nI_pos (by omega) h
  · rw [nI_leI (by omega) (by omega)] at h
    omega
def mvs (ts : List (Nat → Nat)) : List (Nat → Nat) := ts.flatMap (fun t => [t, iv t])
theorem mvs_len (ts : List (Nat → Nat)) : (mvs ts).length = 2 * ts.length := by
  unfold mvs
  rw [flat_len (c := 2) (fun _ _ => rfl), Nat.mul_comm]
theorem mvs_ev : ∀ (ts : List (Nat → Nat)) (i : Nat) (t : Nat → Nat), ts[i]? = some t → (mvs ts)[2 * i]? = some t ∧ (mvs ts)[2 * i + 1]? = some (iv t)
  | [], i, t, h => by cases h
  | a :: r, 0, t, h => by
    cases h
    exact ⟨rfl, rfl⟩
  | a :: r, i + 1, t, h => by
    have := mvs_ev r i t h
    rw [show 2 * (i + 1) = 2 * i + 2 by omega]
    exact this
theorem mvs_mem {ts : List (Nat → Nat)} {m : Nat → Nat} : m ∈ mvs ts ↔ ∃ t ∈ ts, m = t ∨ m = iv t := by
  unfold mvs
  rw [List.mem_flatMap]
  simp
theorem mvs_app (a b : List (Nat → Nat)) : mvs (a ++ b) = mvs a ++ mvs b := by
  unfold mvs
  rw [List.flatMap_append]
theorem Lw.id (n : Nat) : Lw n idp := ⟨Pm.id, fun _ _ => rfl⟩
theorem Lw.cmp {n : Nat} {f g : Nat → Nat} (hf : Lw n f) (hg : Lw n g) : Lw n (cmp f g) := ⟨hf.1.cmp hg.1, fun j hj => by
  show g (f j) = j
  rw [hf.2 j hj, hg.2 j hj]⟩
theorem Lw.iv {n : Nat} {f : Nat → Nat} (hf : Lw n f) : Lw n (iv f) := ⟨hf.1.iv, fun j hj => by
  have := hf.1.iv_l j
  rwa [hf.2 j hj] at this⟩
theorem Lw.lt {n : Nat} {f : Nat → Nat} (hf : Lw n f) {i : Nat} (hi : i < n) : f i < n := by
  by_cases h : f i < n
  · exact h
  · have := hf.1.inj (hf.2 (f i) (by omega))
    omega
theorem mvs_lw {n : Nat} {ts : List (Nat → Nat)} (h : ∀ t ∈ ts, Lw n t) : ∀ m ∈ mvs ts, Lw n m := fun m hm => by
  obtain ⟨t, ht, rfl | rfl⟩ := mvs_mem.mp hm
  · exact h _ ht
  · exact (h _ ht).iv
theorem Gen.lw {n : Nat} {ts : List (Nat → Nat)} (h : ∀ t ∈ ts, Lw n t) {f : Nat → Nat} (hf : Gen ts f) : Lw n f := Gen.ind (P := Lw n) (Lw.id n) (fun _ _ => Lw.cmp) h hf
theorem Gen.pms {n : Nat} {ts : List (Nat → Nat)} (h : ∀ t ∈ ts, Lw n t) : Gr (Gen ts) := Gr.gen (fun t ht => (h t ht).1)
theorem Gen_cg {A B : List (Nat → Nat)} (h : ∀ f, Gen A f ↔ Gen B f) (t f : Nat → Nat) : Gen (A ++ [t]) f ↔ Gen (B ++ [t]) f := by
  have key : ∀ A B : List (Nat → Nat), (∀ f, Gen A f → Gen B f) → Gen (A ++ [t]) f → Gen (B ++ [t]) f := by
    intro A B h hf
    refine Gen.ind (P := Gen (B ++ [t])) (Gen.id _) (fun _ _ => Gen.mul) (fun x hx => ?_) hf
    rcases List.mem_append.mp hx with hx | hx
    · exact (h x (Gen.of hx)).mono (fun y hy => List.mem_append_left _ hy)
    · exact Gen.of (List.mem_append_right _ hx)
  exact ⟨key A B (fun f => (h f).mp), key B A (fun f => (h f).mpr)⟩
theorem Gen_in {A : List (Nat → Nat)} {t : Nat → Nat} (h : Gen A t) (f : Nat → Nat) : Gen (A ++ [t]) f ↔ Gen A f := by
  refine ⟨fun hf => Gen.ind (P := Gen A) (Gen.id _) (fun _ _ => Gen.mul) (fun x hx => ?_) hf, fun hf => hf.mono (fun y hy => List.mem_append_left _ hy)⟩
  rcases List.mem_append.mp hx with hx | hx
  · exact Gen.of hx
  · rw [List.mem_singleton] at hx
    rw [hx]
    exact h
noncomputable def radf (ts : List (Nat → Nat)) : Nat := match cd (ord (Gen ts) 12 0 ≤ 1500) with
  | true => 1500
  | false => 2
def BK (w : Wd) (ts : List (Nat → Nat)) : Prop := w.1 0 0 10 = 0 ∨ (w.1 0 0 10 = 1 ∧ ∃ B sl, BaW w B sl ∧ HT B sl ∧ BaS (mvs ts) (radf ts) B)
def CK (w : Wd) (ts : List (Nat → Nat)) : Prop := ∃ s, ChW w s ∧ CW s ∧ CC s 0 ∧ IRR s 0 ∧ (cM s 0).length ≤ ts.length ∧ ∀ f, Gen (cM s 0) f ↔ Gen ts f
def SK (w : Wd) (so : List Nat) : Prop := so.length ≤ 1500 ∧ w.1 0 0 8 = nI so.length ∧ (∀ i m, so[i]? = some m → w.1 5 0 i = nI m) ∧ ∀ m ∈ so, m < 10
def NK (w : Wd) (n : Nat) (ts : List (Nat → Nat)) (tb : Nat → Nat) : Prop := (1 ≤ n ∧ n ≤ 12) ∧ (ts.length ≤ 5 ∧ ∀ t ∈ ts, Lw n t) ∧ Lw n tb ∧ w.1 0 0 6 = nI n ∧ w.1 0 0 7 = nI ts.length ∧ w.2 0 0 9 = rw tb
def KS (w : Wd) (n : Nat) (ts : List (Nat → Nat)) (tb : Nat → Nat) (so : List Nat) : Prop := NK w n ts tb ∧ MvW w (mvs ts) ∧ CK w ts ∧ BK w ts ∧ SK w so
abbrev AS : Type := Nat × List (Nat → Nat) × (Nat → Nat) × List Nat × List Nat
def KI (w : Wd) (A : AS) : Prop := KS w A.1 A.2.1 A.2.2.1 A.2.2.2.2 ∧ TxW w A.2.2.2.1
theorem ChW.cg {w u : Wd} {s : CS} (h : ChW w s) (h0 : u.1 20 = w.1 20) (h1 : u.1 21 = w.1 21) (h2 : u.1 22 = w.1 22) (h3 : u.2 14 = w.2 14) (h4 : u.2 16 = w.2 16) (h5 : u.2 18 = w.2 18) : ChW u s := fun k hk => by
  have := h k hk
  unfold ChL at this ⊢
  rw [h0, h1, h2, h3, h4, h5]
  exact this
theorem BaW.cg {w u : Wd} {B : BL} {sl : Nat → Nat} (h : BaW w B sl) (h0 : u.1 3 = w.1 3) (h1 : u.2 10 = w.2 10) (h2 : u.1 11 = w.1 11) (h3 : u.1 12 = w.1 12) : BaW u B sl := by
  unfold BaW at h ⊢
  rw [h0, h1, h2, h3]
  exact h
theorem TxW.cg {w u : Wd} {tx : List Nat} (h : TxW w tx) (h0 : u.1 1 = w.1 1) (h1 : u.1 7 = w.1 7) : TxW u tx := by
  unfold TxW at h ⊢
  rw [h0, h1]
  exact h
theorem CK.sm {w u : Wd} {ts : List (Nat → Nat)} {ks : List Nat} (h : CK w ts) (hs : Sm ks w u) (hk : ∀ k ∈ chK, k ∉ ks) : CK u ts := by
  obtain ⟨s, a, b⟩ := h
  exact ⟨s, a.cg (hs 20 (hk 20 (by decide))).1 (hs 21 (hk 21 (by decide))).1 (hs 22 (hk 22 (by decide))).1 (hs 14 (hk 14 (by decide))).2 (hs 16 (hk 16 (by decide))).2 (hs 18 (hk 18 (by decide))).2, b⟩
theorem BaW.sm {w u : Wd} {B : BL} {sl : Nat → Nat} {ks : List Nat} (h : BaW w B sl) (hs : Sm ks w u) (hk : ∀ k ∈ baK, k ∉ ks) : BaW u B sl := h.cg (hs 3 (hk 3 (by decide))).1 (hs 10 (hk 10 (by decide))).2 (hs 11 (hk 11 (by decide))).1 (hs 12 (hk 12 (by decide))).1
theorem BK.cg {w u : Wd} {ts : List (Nat → Nat)} {ks : List Nat} (h : BK w ts) (hs : Sm ks w u) (hk : ∀ k ∈ baK, k ∉ ks) (h0 : u.1 0 0 10 = w.1 0 0 10) : BK u ts := by
  unfold BK at h ⊢
  rw [h0]
  rcases h with h | ⟨h, B, sl, a, b⟩
  · exact Or.inl h
  · exact Or.inr ⟨h, B, sl, a.sm hs hk, b⟩
theorem KS.sm {w u : Wd} {n : Nat} {ts : List (Nat → Nat)} {tb : Nat → Nat} {so : List Nat} {ks : List Nat} (h : KS w n ts tb so) (hs : Sm ks w u) (hk : ∀ k ∈ [0, 3, 4, 5, 10, 11, 12, 14, 16, 18, 20, 21, 22], k ∉ ks) : KS u n ts tb so := by
  obtain ⟨h1, h2, h3, h4, h5⟩ := h
  have e0 := hs 0 (hk 0 (by decide))
  refine ⟨?_, h2.sm hs (hk 4 (by decide)), h3.sm hs (fun k hq => hk k ?_), h4.cg hs (fun k hq => hk k ?_) (by rw [e0.1]), ?_⟩
  · unfold NK at h1 ⊢
    rw [e0.1, e0.2]
    exact h1
  · revert k
    decide
  · revert k
    decide
  · unfold SK at h5 ⊢
    rw [e0.1, (hs 5 (hk 5 (by decide))).1]
    exact h5
section
variable {l : Launch} {E : En}
abbrev xIO : String := "java/lang/IndexOutOfBoundsException"
abbrev xIA : String := "java/lang/IllegalArgumentException"
abbrev xIS : String := "java/lang/IllegalStateException"
abbrev xUO : String := "java/lang/UnsupportedOperationException"
abbrev xNS : String := "java/util/NoSuchElementException"
theorem c_requireTurn {w : Wd} {n : Nat} {x : Int32} {po : Option AV → Wd → Prop} {xo : String → Wd → Prop} (G : GC l E) (hw : w.1 0 0 7 = nI n) (hn : n ≤ 5) (h1 : ∀ k, k < n → x = nI k → po none w) (h2 : (x < 0 ∨ nI n ≤ x) → xo xIO w) : Ctr l E 1 1 mX4_requireTurn [vR 0, vI x] w po xo := by
  refine Ctr.of (tw := tX4_requireTurn) G.1 G.2 oX4_ok pgX4_requireTurn twX4_requireTurn (by decide) rfl rfl (Nat.le_of_ble_eq_true rfl) ?_
  intro V hV
  iterate 2 refine hV.go rfl ?_
  refine And.intro (fun hc => ?_) (fun hc => ?_)
  · have hc : x < 0 := hc
    refine hV.go rfl ?_
    exact ⟨h2 (Or.inl hc), Nat.le_refl _⟩
  · iterate 3 refine hV.go rfl ?_
    refine topI (V := V) hw ?_
    refine hV.go rfl ?_
    rcases bnd x (n := n) (by omega) with ⟨k, hk, rfl⟩ | hb
    · refine And.intro (fun hc => ?_) (fun hc => ?_)
      · repeat refine hV.go rfl ?_
        exact ⟨h1 k hk rfl, (by decide)⟩
      · exact absurd (show nI k < nI n from nI_lt hk (by omega)) hc
    · refine And.intro (fun hc2 => ?_) (fun hc2 => ?_)
      · have hc2 : x < nI n := hc2
        rcases hb with hb | hb
        · exact absurd hb hc
        · exact absurd (Int32.lt_of_lt_of_le hc2 hb) (Int32.lt_irrefl)
      · refine hV.go rfl ?_
        exact ⟨h2 hb, Nat.le_refl _⟩
theorem c_requireSticker {w : Wd} {n : Nat} {x : Int32} {po : Option AV → Wd → Prop} {xo : String → Wd → Prop} (G : GC l E) (hw : w.1 0 0 6 = nI n) (hn : n ≤ 12) (h1 : ∀ k, k < n → x = nI k → po none w) (h2 : (x < 0 ∨ nI n ≤ x) → xo xIO w) : Ctr l E 1 1 mX4_requireSticker [vR 0, vI x] w po xo := by
  refine Ctr.of (tw := tX4_requireSticker) G.1 G.2 oX4_ok pgX4_requireSticker twX4_requireSticker (by decide) rfl rfl (Nat.le_of_ble_eq_true rfl) ?_
  intro V hV
  iterate 2 refine hV.go rfl ?_
  refine And.intro (fun hc => ?_) (fun hc => ?_)
  · have hc : x < 0 := hc
    refine hV.go rfl ?_
    exact ⟨h2 (Or.inl hc), Nat.le_refl _⟩
  · iterate 3 refine hV.go rfl ?_
    refine topI (V := V) hw ?_
    refine hV.go rfl ?_
    rcases bnd x (n := n) (by omega) with ⟨k, hk, rfl⟩ | hb
    · refine And.intro (fun hc => ?_) (fun hc => ?_)
      · repeat refine hV.go rfl ?_
        exact ⟨h1 k hk rfl, (by decide)⟩
      · exact absurd (show nI k < nI n from nI_lt hk (by omega)) hc
    · refine And.intro (fun hc2 => ?_) (fun hc2 => ?_)
      · have hc2 : x < nI n := hc2
        rcases hb with hb | hb
        · exact absurd hb hc
        · exact absurd (Int32.lt_of_lt_of_le hc2 hb) (Int32.lt_irrefl)
      · refine hV.go rfl ?_
        exact ⟨h2 hb, Nat.le_refl _⟩
end
