/-! how many makers a level can have -/
theorem sub_len {α : Type} : ∀ (A B : List α), A.Nodup → (∀ x ∈ A, x ∈ B) → A.length ≤ B.length
  | [], B, _, _ => Nat.zero_le _
  | a :: A, B, hd, h => by
    obtain ⟨B1, B2, rfl⟩ := List.append_of_mem (h a List.mem_cons_self)
    rw [List.nodup_cons] at hd
    have := sub_len A (B1 ++ B2) hd.2 (fun x hx => by
      have h1 := h x (List.mem_cons_of_mem _ hx)
      rw [List.mem_append, List.mem_cons] at h1
      rw [List.mem_append]
      rcases h1 with h1 | rfl | h1
      · exact Or.inl h1
      · exact absurd hx hd.1
      · exact Or.inr h1)
    simp only [List.length_append, List.length_cons] at this ⊢
    omega
theorem len_filter {α : Type} (p : α → Bool) : ∀ l : List α, l.length = (l.filter p).length + (l.filter (fun x => !p x)).length
  | [] => rfl
  | a :: l => by
    have ih := len_filter p l
    cases h : p a <;> simp [List.filter_cons, h] <;> omega
theorem nodup_map {α β : Type} {f : α → β} : ∀ {l : List α}, (∀ x ∈ l, ∀ y ∈ l, f x = f y → x = y) → l.Nodup → (l.map f).Nodup
  | [], _, _ => List.nodup_nil
  | a :: l, h, hd => by
    rw [List.nodup_cons] at hd
    rw [List.map_cons, List.nodup_cons]
    refine ⟨fun z => ?_, nodup_map (fun x hx y hy => h x (List.mem_cons_of_mem _ hx) y (List.mem_cons_of_mem _ hy)) hd.2⟩
    obtain ⟨b, hb, e⟩ := List.mem_map.mp z
    have := h b (List.mem_cons_of_mem _ hb) a List.mem_cons_self e
    subst this
    exact hd.1 hb
/-- cosets -/
theorem lag {hl : List (Nat → Nat)} (hnd : hl.Nodup) (hpm : ∀ f ∈ hl, Pm f) (hmul : ∀ f ∈ hl, ∀ g ∈ hl, cmp f g ∈ hl) (hinv : ∀ f ∈ hl, iv f ∈ hl) (hid : idp ∈ hl) : ∀ (n : Nat) (X : List (Nat → Nat)), X.length ≤ n → X.Nodup → (∀ x ∈ X, Pm x) → (∀ h ∈ hl, ∀ x ∈ X, cmp h x ∈ X) → hl.length ∣ X.length := by
  intro n
  induction n with
  | zero =>
    intro X hX _ _ _
    rw [Nat.le_zero.mp hX]
    exact Nat.dvd_zero _
  | succ n ih =>
    intro X hX hXd hXp hXc
    cases X with
    | nil => exact Nat.dvd_zero _
    | cons g X0 =>
      have hg : Pm g := hXp g List.mem_cons_self
      generalize hXe : g :: X0 = X at hX hXd hXp hXc
      have hgX : g ∈ X := by rw [← hXe]; exact List.mem_cons_self
      obtain ⟨C, hC⟩ : ∃ C, C = hl.map (fun h => cmp h g) := ⟨_, rfl⟩
      have hCd : C.Nodup := by
        rw [hC]
        refine nodup_map (fun x hx y hy e => ?_) hnd
        have : cmp (cmp x g) (iv g) = cmp (cmp y g) (iv g) := by rw [e]
        rwa [cmp_assoc, cmp_assoc, cmp_iv hg, cmp_id, cmp_id] at this
      have hCm : ∀ x, x ∈ C ↔ ∃ h ∈ hl, cmp h g = x := fun x => by rw [hC, List.mem_map]
      have hCX : ∀ x ∈ C, x ∈ X := fun x hx => by
        obtain ⟨h, hh, rfl⟩ := (hCm x).mp hx
        exact hXc h hh g hgX
      obtain ⟨b, hb⟩ : ∃ b : (Nat → Nat) → Bool, ∀ x, b x = true ↔ x ∈ C := ⟨fun x => @decide (x ∈ C) (Classical.propDecidable _), fun x => @decide_eq_true_iff _ (Classical.propDecidable _)⟩
      have h1 := len_filter b X
      have h2 : (X.filter b).length = C.length := by
        apply Nat.le_antisymm
        · exact sub_len _ _ (hXd.filter _) (fun x hx => (hb x).mp (List.mem_filter.mp hx).2)
        · exact sub_len _ _ hCd (fun x hx => List.mem_filter.mpr ⟨hCX x hx, (hb x).mpr hx⟩)
      have h3 : C.length = hl.length := by rw [hC, List.length_map]
      have hgC : g ∈ C := (hCm g).mpr ⟨idp, hid, rfl⟩
      have hpos : 0 < C.length := List.length_pos_of_mem hgC
      have h4 := ih (X.filter (fun x => !b x)) (by omega) (hXd.filter _) (fun x hx => hXp x (List.mem_filter.mp hx).1) (fun h hh x hx => by
        obtain ⟨hx1, hx2⟩ := List.mem_filter.mp hx
        refine List.mem_filter.mpr ⟨hXc h hh x hx1, ?_⟩
        simp only [Bool.not_eq_true'] at hx2 ⊢
        cases hbb : b (cmp h x) with
        | false => rfl
        | true =>
          obtain ⟨h', hh', e⟩ := (hCm _).mp ((hb _).mp hbb)
          have : x ∈ C := (hCm x).mpr ⟨cmp (iv h) h', hmul _ (hinv h hh) _ hh', by
            rw [cmp_assoc, e, ← cmp_assoc, iv_cmp (hpm h hh), id_cmp]⟩
          rw [(hb x).mpr this] at hx2
          cases hx2)
      rw [h1, h2, h3]
      exact Nat.dvd_add (Nat.dvd_refl _) h4
/-- all rows that fix what is below k -/
def sw (k p : Nat) : Nat → Nat := fun i => if i = k then p else if i = p then k else i
theorem sw_pm {k p : Nat} (hk : k < 12) (hp : p < 12) : Pm (sw k p) := by
  refine ⟨fun i hi => ?_, fun i j hi hj e => ?_, fun i hi => ?_⟩
  · unfold sw
    split
    · exact hp
    · split
      · exact hk
      · exact hi
  · unfold sw at e
    split at e <;> split at e <;> (try split at e) <;> (try split at e) <;> omega
  · unfold sw
    rw [if_neg (by omega), if_neg (by omega)]
def els : Nat → Nat → List (Nat → Nat)
  | 0, _ => [idp]
  | n + 1, k => (List.range (n + 1)).flatMap (fun i => (els n (k + 1)).map (fun g => cmp g (sw k (k + i))))
def fct : Nat → Nat
  | 0 => 1
  | n + 1 => (n + 1) * fct n
theorem flat_len {α β : Type} {f : α → List β} {c : Nat} : ∀ {l : List α}, (∀ a ∈ l, (f a).length = c) → (l.flatMap f).length = l.length * c
  | [], _ => by simp
  | a :: l, h => by
    rw [List.flatMap_cons, List.length_append, h a List.mem_cons_self, flat_len (fun b hb => h b (List.mem_cons_of_mem _ hb)), List.length_cons, Nat.succ_mul, Nat.add_comm]
theorem els_len : ∀ n k, (els n k).length = fct n
  | 0, _ => rfl
  | n + 1, k => by
    unfold els
    rw [flat_len (c := fct n) (fun a _ => by rw [List.length_map, els_len n (k + 1)]), List.length_range]
    rfl
theorem els_mem : ∀ n k, k + n = 12 → ∀ f, f ∈ els n k ↔ Fx k f
  | 0, k, hk, f => by
    have : k = 12 := by omega
    subst this
    constructor
    · intro h
      rw [List.mem_singleton.mp h]
      exact Fx.id 12
    · intro h
      rw [h.twelve]
      exact List.mem_singleton.mpr rfl
  | n + 1, k, hk, f => by
    have ih := els_mem n (k + 1) (by omega)
    unfold els
    rw [List.mem_flatMap]
    constructor
    · rintro ⟨i, hi, h⟩
      rw [List.mem_range] at hi
      obtain ⟨g, hg, rfl⟩ := List.mem_map.mp h
      have hg := (ih g).mp hg
      refine (hg.mono (by omega)).cmp ⟨sw_pm (by omega) (by omega), fun j hj => ?_⟩
      unfold sw
      rw [if_neg (by omega), if_neg (by omega)]
    · intro hf
      have hge := hf.ge (Nat.le_refl k)
      have hlt := hf.1.1 k (by omega)
      have hsw := sw_pm (k := k) (p := f k) (by omega) hlt
      refine ⟨f k - k, List.mem_range.mpr (by omega), List.mem_map.mpr ⟨cmp f (iv (sw k (f k))), (ih _).mpr ⟨hf.1.cmp hsw.iv, fun j hj => ?_⟩, ?_⟩⟩
      · show iv (sw k (f k)) (f j) = j
        have h9 := hsw.iv_l j
        by_cases e : j = k
        · subst e
          have : sw j (f j) j = f j := by simp [sw]
          rwa [this] at h9
        · have h8 : f j = j := hf.2 j (by omega)
          have : sw k (f k) j = j := by
            unfold sw
            rw [if_neg e, if_neg (by omega)]
          rw [this] at h9
          rw [h8]
          exact h9
      · rw [show k + (f k - k) = f k by omega, cmp_assoc, iv_cmp hsw, cmp_id]
theorem els_nd : ∀ n k, k + n = 12 → (els n k).Nodup
  | 0, _, _ => by simp [els]
  | n + 1, k, hk => by
    have ih := els_nd n (k + 1) (by omega)
    have hmem := els_mem n (k + 1) (by omega)
    unfold els
    show List.Pairwise _ _
    rw [List.pairwise_flatMap]
    refine ⟨fun i hi => ?_, ?_⟩
    · rw [List.mem_range] at hi
      refine nodup_map (fun x hx y hy e => ?_) ih
      have hsw := sw_pm (k := k) (p := k + i) (by omega) (by omega)
      have : cmp (cmp x (sw k (k + i))) (iv (sw k (k + i))) = cmp (cmp y (sw k (k + i))) (iv (sw k (k + i))) := by rw [e]
      rwa [cmp_assoc, cmp_assoc, cmp_iv hsw, cmp_id, cmp_id] at this
    · have hr : (List.range (n + 1)).Pairwise (fun a b => a ≠ b) := List.nodup_range
      refine hr.imp (fun {a b} hab x hx y hy e => hab ?_)
      obtain ⟨g, hg, rfl⟩ := List.mem_map.mp hx
      obtain ⟨g', hg', e'⟩ := List.mem_map.mp hy
      have h1 : (cmp g (sw k (k + a))) k = k + a := by
        show sw k (k + a) (g k) = k + a
        rw [((hmem g).mp hg).2 k (by omega)]
        simp [sw]
      have h2 : y k = k + b := by
        rw [← e']
        show sw k (k + b) (g' k) = k + b
        rw [((hmem g').mp hg').2 k (by omega)]
        simp [sw]
      rw [← e, h1] at h2
      omega
/-- products of numbers of at least 2 that divide n -/
def lpr : List Nat → Nat
  | [] => 1
  | a :: l => a * lpr l
theorem lpr_app (a b : List Nat) : lpr (a ++ b) = lpr a * lpr b := by
  induction a with
  | nil => exact (Nat.one_mul _).symm
  | cons x a ih =>
    show x * lpr (a ++ b) = x * lpr a * lpr b
    rw [ih, Nat.mul_assoc]
def pB (n j : Nat) : Prop := ∀ l : List Nat, (∀ q ∈ l, 2 ≤ q) → lpr l ∣ n → l.length ≤ j
def prm (p : Nat) : Prop := 2 ≤ p ∧ ∀ d, d ∣ p → d = 1 ∨ d = p
theorem prm_or {p : Nat} (h : prm p) (a : Nat) : p ∣ a ∨ Nat.Coprime p a := by
  rcases h.2 (Nat.gcd p a) (Nat.gcd_dvd_left p a) with e | e
  · exact Or.inr e
  · exact Or.inl (by rw [← e]; exact Nat.gcd_dvd_right p a)
theorem prm_mul {p : Nat} (h : prm p) {a b : Nat} (hd : p ∣ a * b) : p ∣ a ∨ p ∣ b := by
  rcases prm_or h a with e | e
  · exact Or.inl e
  · exact Or.inr (e.dvd_of_dvd_mul_left hd)
theorem prm_lpr {p : Nat} (h : prm p) : ∀ l : List Nat, p ∣ lpr l → ∃ l1 q l2, l = l1 ++ q :: l2 ∧ p ∣ q
  | [], hd => by
    have := Nat.le_of_dvd Nat.one_pos hd
    have := h.1
    omega
  | a :: l, hd => by
    rcases prm_mul h (show p ∣ a * lpr l from hd) with e | e
    · exact ⟨[], a, l, rfl, e⟩
    · obtain ⟨l1, q, l2, rfl, hq⟩ := prm_lpr h l e
      exact ⟨a :: l1, q, l2, rfl, hq⟩
theorem pB_step {p n j : Nat} (h : prm p) (hB : pB n j) : pB (p * n) (j + 1) := by
  intro l hl hd
  have hp : 0 < p := by have := h.1; omega
  rcases prm_or h (lpr l) with e | e
  · obtain ⟨l1, q, l2, rfl, q', rfl⟩ := prm_lpr h l e
    have hq := hl (p * q') (List.mem_append_right _ List.mem_cons_self)
    have e1 : lpr (l1 ++ p * q' :: l2) = p * lpr (l1 ++ q' :: l2) := by
      rw [lpr_app, lpr_app]
      show lpr l1 * (p * q' * lpr l2) = p * (lpr l1 * (q' * lpr l2))
      rw [Nat.mul_assoc p, Nat.mul_left_comm]
    rw [e1] at hd
    have hd2 := Nat.dvd_of_mul_dvd_mul_left hp hd
    by_cases hq1 : q' = 1
    · subst hq1
      have := hB (l1 ++ l2) (fun x hx => hl x (by
        rw [List.mem_append] at hx ⊢
        exact hx.imp id (List.mem_cons_of_mem _))) (by
        rw [lpr_app] at hd2 ⊢
        simpa [lpr] using hd2)
      simp only [List.length_append, List.length_cons] at this ⊢
      omega
    · have hq0 : q' ≠ 0 := by
        rintro rfl
        simp at hq
      have := hB (l1 ++ q' :: l2) (fun x hx => by
        rw [List.mem_append, List.mem_cons] at hx
        rcases hx with hx | rfl | hx
        · exact hl x (List.mem_append_left _ hx)
        · omega
        · exact hl x (List.mem_append_right _ (List.mem_cons_of_mem _ hx))) hd2
      simp only [List.length_append, List.length_cons] at this ⊢
      omega
  · have := hB l hl (e.symm.dvd_of_dvd_mul_left hd)
    omega
theorem prm_of {p : Nat} (h2 : 2 ≤ p) (h : ∀ d, d ≤ p → d ∣ p → d = 1 ∨ d = p) : prm p := ⟨h2, fun d hd => h d (Nat.le_of_dvd (by omega) hd) hd⟩
theorem prm2 : prm 2 := prm_of (by decide) (by decide)
theorem prm3 : prm 3 := prm_of (by decide) (by decide)
theorem prm5 : prm 5 := prm_of (by decide) (by decide)
theorem prm7 : prm 7 := prm_of (by decide) (by decide)
theorem prm11 : prm 11 := prm_of (by decide) (by decide)
theorem pB_1 : pB 1 0 := by
  intro l hl hd
  cases l with
  | nil => exact Nat.le_refl _
  | cons a l =>
    have h1 := hl a List.mem_cons_self
    have h2 : a ∣ 1 := Nat.dvd_trans (Nat.dvd_mul_right a (lpr l)) hd
    have := Nat.le_of_dvd Nat.one_pos h2
    omega
theorem pB_11 : pB (fct 11) 16 := by
  have h := pB_step prm2 (pB_step prm2 (pB_step prm2 (pB_step prm2 (pB_step prm2 (pB_step prm2 (pB_step prm2 (pB_step prm2 (pB_step prm3 (pB_step prm3 (pB_step prm3 (pB_step prm3 (pB_step prm5 (pB_step prm5 (pB_step prm7 (pB_step prm11 pB_1)))))))))))))))
  have e : fct 11 = 2 * (2 * (2 * (2 * (2 * (2 * (2 * (2 * (3 * (3 * (3 * (3 * (5 * (5 * (7 * (11 * 1))))))))))))))) := by decide
  rw [e]
  exact h
/-- each one is new -/
def Irr (l : List (Nat → Nat)) : Prop := ∀ i f, l[i]? = some f → ¬ Gen (l.take i) f
theorem Irr.add {l : List (Nat → Nat)} {m : Nat → Nat} (h : Irr l) (hm : ¬ Gen l m) : Irr (l ++ [m]) := by
  intro i f hf
  by_cases hi : i < l.length
  · rw [List.getElem?_append_left hi] at hf
    rw [List.take_append_of_le_length (by omega)]
    exact h i f hf
  · rw [List.getElem?_append_right (by omega)] at hf
    have h1 : i - l.length < 1 := (List.getElem?_eq_some_iff.mp hf).1
    have h2 : i = l.length := by omega
    subst h2
    simp at hf
    subst hf
    rw [List.take_append_of_le_length (Nat.le_refl _), List.take_length]
    exact hm
theorem irr_le {k : Nat} (hk : 1 ≤ k) (hk2 : k ≤ 12) {l : List (Nat → Nat)} (hl : ∀ f ∈ l, Fx k f) (hi : Irr l) : l.length ≤ 16 := by
  have hmem := els_mem (12 - k) k (by omega)
  have hnd := els_nd (12 - k) k (by omega)
  -- the elements that the first i make
  obtain ⟨G, hG⟩ : ∃ G : Nat → List (Nat → Nat), ∀ i, (G i).Nodup ∧ ∀ f, f ∈ G i ↔ Fx k f ∧ Gen (l.take i) f := by
    refine ⟨fun i => (els (12 - k) k).filter (fun f => @decide (Gen (l.take i) f) (Classical.propDecidable _)), fun i => ⟨hnd.filter _, fun f => ?_⟩⟩
    rw [List.mem_filter, hmem f, @decide_eq_true_iff _ (Classical.propDecidable _)]
  have htk : ∀ i, ∀ f ∈ l.take i, Fx k f := fun i f hf => hl f (List.mem_of_mem_take hf)
  have hgr : ∀ i (X : List (Nat → Nat)), X.Nodup → (∀ x ∈ X, Pm x) → (∀ h ∈ G i, ∀ x ∈ X, cmp h x ∈ X) → (G i).length ∣ X.length := by
    intro i X h1 h2 h3
    refine lag (hG i).1 (fun f hf => (((hG i).2 f).mp hf).1.1) (fun f hf g hg => ?_) (fun f hf => ?_) ?_ X.length X (Nat.le_refl _) h1 h2 h3
    · obtain ⟨a1, a2⟩ := ((hG i).2 f).mp hf
      obtain ⟨b1, b2⟩ := ((hG i).2 g).mp hg
      exact ((hG i).2 _).mpr ⟨a1.cmp b1, a2.mul b2⟩
    · obtain ⟨a1, a2⟩ := ((hG i).2 f).mp hf
      exact ((hG i).2 _).mpr ⟨a1.iv, a2.iv a1.1⟩
    · exact ((hG i).2 _).mpr ⟨Fx.id k, Gen.id _⟩
  have hpos : ∀ i, 0 < (G i).length := fun i => List.length_pos_of_mem (((hG i).2 idp).mpr ⟨Fx.id k, Gen.id _⟩)
  have chain : ∀ i, i ≤ l.length → ∃ qs : List Nat, qs.length = i ∧ (∀ q ∈ qs, 2 ≤ q) ∧ lpr qs ∣ (G i).length := by
    intro i
    induction i with
    | zero => exact fun _ => ⟨[], rfl, (fun _ h => nomatch h), Nat.one_dvd _⟩
    | succ i ih =>
      intro hil
      obtain ⟨qs, h1, h2, h3⟩ := ih (by omega)
      have hli : l[i]? = some l[i] := List.getElem?_eq_getElem (by omega)
      have hsub : ∀ f ∈ G i, f ∈ G (i + 1) := fun f hf => by
        obtain ⟨a1, a2⟩ := ((hG i).2 f).mp hf
        refine ((hG (i + 1)).2 f).mpr ⟨a1, a2.mono (fun x hx => ?_)⟩
        rw [List.take_add_one]
        exact List.mem_append_left _ hx
      have hnew : l[i] ∈ G (i + 1) := ((hG (i + 1)).2 _).mpr ⟨hl _ (List.getElem_mem _), Gen.of (by
        rw [List.take_add_one, hli]
        exact List.mem_append_right _ List.mem_cons_self)⟩
      have hnot : l[i] ∉ G i := fun z => hi i _ hli (((hG i).2 _).mp z).2
      obtain ⟨q, hq⟩ := hgr i (G (i + 1)) (hG (i + 1)).1 (fun x hx => (((hG (i + 1)).2 x).mp hx).1.1) (fun h hh x hx => by
        obtain ⟨a1, a2⟩ := ((hG (i + 1)).2 _).mp (hsub h hh)
        obtain ⟨b1, b2⟩ := ((hG (i + 1)).2 _).mp hx
        exact ((hG (i + 1)).2 _).mpr ⟨a1.cmp b1, a2.mul b2⟩)
      have hlt : (G i).length + 1 ≤ (G (i + 1)).length := by
        have := sub_len (l[i] :: G i) (G (i + 1)) (List.nodup_cons.mpr ⟨hnot, (hG i).1⟩) (fun x hx => by
          rcases List.mem_cons.mp hx with rfl | hx
          · exact hnew
          · exact hsub x hx)
        simpa using this
      have hq2 : 2 ≤ q := by
        rcases Nat.lt_or_ge q 2 with z | z
        · have : q = 0 ∨ q = 1 := by omega
          rcases this with rfl | rfl
          · rw [Nat.mul_zero] at hq
            omega
          · rw [Nat.mul_one] at hq
            omega
        · exact z
      refine ⟨q :: qs, by rw [List.length_cons, h1], fun x hx => ?_, ?_⟩
      · rcases List.mem_cons.mp hx with rfl | hx
        · exact hq2
        · exact h2 x hx
      · rw [hq]
        show q * lpr qs ∣ (G i).length * q
        rw [Nat.mul_comm]
        exact Nat.mul_dvd_mul_right h3 q
  obtain ⟨qs, h1, h2, h3⟩ := chain l.length (Nat.le_refl _)
  have h4 : (G l.length).length ∣ fct (12 - k) := by
    rw [← els_len (12 - k) k]
    refine hgr l.length (els (12 - k) k) hnd (fun x hx => ((hmem x).mp hx).1) (fun h hh x hx => ?_)
    exact (hmem _).mpr ((((hG _).2 h).mp hh).1.cmp ((hmem x).mp hx))
  have h5 : ∀ n, n ≤ 11 → fct n ∣ fct 11 := by decide
  have := pB_11 qs h2 (Nat.dvd_trans h3 (Nat.dvd_trans h4 (h5 _ (by omega))))
  omega
