/-! distances, and the group that the moves make -/
theorem Rn_add {mv : List (Nat → Nat)} : ∀ {b a : Nat} {f g : Nat → Nat}, Rn mv a f → Rn mv b g → Rn mv (a + b) (cmp f g)
  | 0, a, f, g, hf, hg => by
    have hg : g = idp := hg
    rw [hg, cmp_id]
    exact hf
  | b + 1, a, f, g, hf, hg => by
    obtain ⟨g', m, h1, h2, rfl⟩ := hg
    exact ⟨cmp f g', m, Rn_add hf h1, h2, rfl⟩
theorem Rn_one {mv : List (Nat → Nat)} {m : Nat → Nat} (h : m ∈ mv) : Rn mv 1 m := ⟨idp, m, rfl, h, rfl⟩
theorem Rn_gen {ts : List (Nat → Nat)} (hp : ∀ t ∈ ts, Pm t) : ∀ {n : Nat} {f : Nat → Nat}, Rn (mvs ts) n f → Gen ts f
  | 0, f, h => by
    have h : f = idp := h
    rw [h]
    exact Gen.id _
  | n + 1, f, h => by
    obtain ⟨g, m, h1, h2, rfl⟩ := h
    obtain ⟨t, ht, rfl | rfl⟩ := mvs_mem.mp h2
    · exact (Rn_gen hp h1).mul (Gen.of ht)
    · exact (Rn_gen hp h1).mul (Gen.iv (hp t ht) (Gen.of ht))
theorem Gen_rn {ts : List (Nat → Nat)} {f : Nat → Nat} (h : Gen ts f) : ∃ n, Rn (mvs ts) n f := by
  refine Gen.ind (P := fun f => ∃ n, Rn (mvs ts) n f) ⟨0, rfl⟩ ?_ ?_ h
  · rintro f g ⟨a, ha⟩ ⟨b, hb⟩
    exact ⟨a + b, Rn_add ha hb⟩
  · intro x hx
    exact ⟨1, Rn_one (mvs_mem.mpr ⟨x, hx, Or.inl rfl⟩)⟩
theorem Dst.ex {mv : List (Nat → Nat)} {f : Nat → Nat} : ∀ {n : Nat}, Rn mv n f → ∃ d, d ≤ n ∧ Dst mv f d := by
  intro n
  induction n using Nat.strongRecOn with
  | ind n ih =>
    intro h
    by_cases z : ∃ k, k < n ∧ Rn mv k f
    · obtain ⟨k, hk, hr⟩ := z
      obtain ⟨d, a, b⟩ := ih k hk hr
      exact ⟨d, by omega, b⟩
    · exact ⟨n, Nat.le_refl _, h, fun k hk hr => z ⟨k, hk, hr⟩⟩
/-- the moves have their backward ones -/
def Sym (mv : List (Nat → Nat)) : Prop := (∀ m ∈ mv, Pm m) ∧ ∀ m ∈ mv, iv m ∈ mv
theorem mvs_sym {ts : List (Nat → Nat)} (hp : ∀ t ∈ ts, Pm t) : Sym (mvs ts) := by
  refine ⟨fun m hm => ?_, fun m hm => ?_⟩
  · obtain ⟨t, ht, rfl | rfl⟩ := mvs_mem.mp hm
    · exact hp _ ht
    · exact (hp _ ht).iv
  · obtain ⟨t, ht, rfl | rfl⟩ := mvs_mem.mp hm
    · exact mvs_mem.mpr ⟨m, ht, Or.inr rfl⟩
    · rw [iv_iv (hp _ ht)]
      exact mvs_mem.mpr ⟨t, ht, Or.inl rfl⟩
theorem Sym.back {mv : List (Nat → Nat)} (h : Sym mv) {m f : Nat → Nat} (hm : m ∈ mv) : cmp (cmp f m) (iv m) = f := by
  rw [cmp_assoc, cmp_iv (h.1 m hm), cmp_id]
theorem Sym.up {mv : List (Nat → Nat)} (h : Sym mv) {m f : Nat → Nat} (hm : m ∈ mv) {n : Nat} (hr : Rn mv n (cmp f m)) : Rn mv (n + 1) f := ⟨cmp f m, iv m, hr, h.2 m hm, (h.back hm).symm⟩
theorem Dst.prev {mv : List (Nat → Nat)} {g m : Nat → Nat} {d : Nat} (hm : m ∈ mv) (h : Dst mv (cmp g m) (d + 1)) (hr : Rn mv d g) : Dst mv g d := ⟨hr, fun n hn z => h.2 (n + 1) (by omega) ⟨g, m, z, hm, rfl⟩⟩
theorem Dst.near {mv : List (Nat → Nat)} (hs : Sym mv) {f : Nat → Nat} {d : Nat} (h : Dst mv f (d + 1)) : ∃ m ∈ mv, Dst mv (cmp f m) d := by
  obtain ⟨g, m, h1, h2, rfl⟩ := id h.1
  exact ⟨iv m, hs.2 m h2, by rw [hs.back h2]; exact Dst.prev h2 h h1⟩
theorem Dst.path {mv : List (Nat → Nat)} : ∀ {d : Nat} {f : Nat → Nat}, Dst mv f d → ∃ L : List (Nat → Nat), L.length = d + 1 ∧ L.Nodup ∧ ∀ g ∈ L, ∃ i, i ≤ d ∧ Dst mv g i
  | 0, f, h => ⟨[f], rfl, by simp, fun g hg => ⟨0, Nat.le_refl _, by rw [List.mem_singleton] at hg; rw [hg]; exact h⟩⟩
  | d + 1, f, h => by
    obtain ⟨g, m, h1, h2, rfl⟩ := id h.1
    obtain ⟨L, a, b, c⟩ := Dst.path (Dst.prev h2 h h1)
    refine ⟨cmp g m :: L, by rw [List.length_cons, a], List.nodup_cons.mpr ⟨fun z => ?_, b⟩, fun x hx => ?_⟩
    · obtain ⟨i, hi, hd⟩ := c _ z
      have := hd.uniq h
      omega
    · rcases List.mem_cons.mp hx with rfl | hx
      · exact ⟨d + 1, Nat.le_refl _, h⟩
      · obtain ⟨i, hi, hd⟩ := c _ hx
        exact ⟨i, by omega, hd⟩
noncomputable abbrev oN (ts : List (Nat → Nat)) : Nat := ord (Gen ts) 12 0
noncomputable abbrev rN (ts : List (Nat → Nat)) (f : Nat → Nat) : Nat := rnk (Gen ts) f 12 0
theorem CP.few {s : CS} {ts : List (Nat → Nat)} (h : CP s (Gen ts)) (hp : ∀ t ∈ ts, Pm t) {L : List (Nat → Nat)} (hL : L.Nodup) (hg : ∀ f ∈ L, Gen ts f) : L.length ≤ oN ts := by
  have h1 : (L.map (rN ts)).Nodup := nodup_map (fun x hx y hy e => h.rnk_inj (Gr.gen hp) (hg x hx) (hg y hy) 12 0 rfl (fun j hj => by omega) e) hL
  have h2 := nodup_len h1 (n := oN ts) (fun r hr => by
    obtain ⟨f, hf, rfl⟩ := List.mem_map.mp hr
    exact h.rnk_lt f 12 0 rfl)
  rwa [List.length_map] at h2
theorem CP.onto {s : CS} {ts : List (Nat → Nat)} (h : CP s (Gen ts)) (hp : ∀ t ∈ ts, Pm t) {r : Nat} (hr : r < oN ts) : ∃ f, Gen ts f ∧ rN ts f = r := by
  obtain ⟨-, a, -, b⟩ := h.z_rwL (Gr.gen hp) 12 0 r idp rfl (Gen.id _) hr
  exact ⟨_, a, b⟩
theorem two_cap {mv : List (Nat → Nat)} (hm : mv.length ≤ 10) {L : List (Nat → Nat)} (hL : L.Nodup) (h : ∀ f ∈ L, ∃ n, n ≤ 2 ∧ Rn mv n f) : L.length ≤ 1500 := by
  have h1 := sub_len L (idp :: (mv ++ mv.flatMap (fun a => mv.map (fun b => cmp a b)))) hL (fun f hf => by
    obtain ⟨n, hn, hr⟩ := h f hf
    match n, hn, hr with
    | 0, _, hr =>
      have hr : f = idp := hr
      rw [hr]
      exact List.mem_cons_self
    | 1, _, hr =>
      obtain ⟨g, m, a, b, rfl⟩ := hr
      have a : g = idp := a
      rw [a, id_cmp]
      exact List.mem_cons_of_mem _ (List.mem_append_left _ b)
    | 2, _, hr =>
      obtain ⟨g, m, ⟨g2, m2, a, b, rfl⟩, d, rfl⟩ := hr
      have a : g2 = idp := a
      rw [a, id_cmp]
      exact List.mem_cons_of_mem _ (List.mem_append_right _ (List.mem_flatMap.mpr ⟨m2, b, List.mem_map.mpr ⟨m, d, rfl⟩⟩)))
  rw [List.length_cons, List.length_append, flat_len (c := mv.length) (fun a _ => List.length_map _)] at h1
  have : mv.length * mv.length ≤ 10 * 10 := Nat.mul_le_mul hm hm
  omega
theorem ball_all {s : CS} {ts : List (Nat → Nat)} (h : CP s (Gen ts)) (hp : ∀ t ∈ ts, Pm t) (hf : oN ts ≤ 1500) {B : BL} (hB : BaS (mvs ts) 1500 B) (f : Nat → Nat) : Gen ts f ↔ ∃ x ∈ B, x.1 = f := by
  constructor
  · intro hg
    obtain ⟨n, hn⟩ := Gen_rn hg
    obtain ⟨d, -, hd⟩ := Dst.ex hn
    obtain ⟨L, a, b, c⟩ := hd.path
    have := h.few hp b (fun g hg => by
      obtain ⟨i, -, hi⟩ := c g hg
      exact Rn_gen hp hi.1)
    exact hB.2.1 d f (by omega) hd.1
  · rintro ⟨x, hx, rfl⟩
    exact Rn_gen hp (hB.1 x hx).1
def IsDia (ts : List (Nat → Nat)) (D : Nat) : Prop := (∃ f, Gen ts f ∧ Dst (mvs ts) f D) ∧ ∀ f d, Dst (mvs ts) f d → d ≤ D
noncomputable def cntD (ts : List (Nat → Nat)) (x : Int32) : Nat := (List.range (oN ts)).countP (fun r => cd (∃ f d, Gen ts f ∧ rN ts f = r ∧ Dst (mvs ts) f d ∧ nI d = x))
theorem bcn_cnt {s : CS} {ts : List (Nat → Nat)} (h : CP s (Gen ts)) (hp : ∀ t ∈ ts, Pm t) (hf : oN ts ≤ 1500) {B : BL} (hB : BaS (mvs ts) 1500 B) (hn : (B.map (fun x => x.1)).Nodup) (x : Int32) : bcn B x = cntD ts x := by
  have hall := ball_all h hp hf hB
  have hinj : ∀ y ∈ B, ∀ z ∈ B, rN ts y.1 = rN ts z.1 → y = z := by
    intro y hy z hz e
    have e1 : y.1 = z.1 := h.rnk_inj (Gr.gen hp) ((hall _).mpr ⟨y, hy, rfl⟩) ((hall _).mpr ⟨z, hz, rfl⟩) 12 0 rfl (fun j hj => by omega) e
    have e2 : y.2 = z.2 := by
      have a := hB.1 y hy
      rw [e1] at a
      exact a.uniq (hB.1 z hz)
    exact Prod.ext e1 e2
  have hBn : B.Nodup := List.Pairwise.of_map (R := fun a b => ¬ a = b) (S := fun a b => ¬ a = b) (fun x => x.1) (fun a b hne e => hne (by rw [e])) hn
  have h1 : (B.map (fun y => rN ts y.1)).Nodup := nodup_map hinj hBn
  unfold cntD
  rw [← cnt_eq (A := B.map (fun y => rN ts y.1)) _ h1 List.nodup_range (fun r => ?_), List.countP_map]
  · unfold bcn
    refine List.countP_congr (fun y hy => ?_)
    simp only [Function.comp, cd_t, decide_eq_true_iff]
    constructor
    · intro e
      exact ⟨y.1, y.2, (hall _).mpr ⟨y, hy, rfl⟩, rfl, hB.1 y hy, e⟩
    · rintro ⟨f, d, g1, g2, g3, g4⟩
      have e1 : f = y.1 := h.rnk_inj (Gr.gen hp) g1 ((hall _).mpr ⟨y, hy, rfl⟩) 12 0 rfl (fun j hj => by omega) g2
      rw [e1] at g3
      rw [← g3.uniq (hB.1 y hy)]
      exact g4
  · rw [List.mem_range, List.mem_map]
    constructor
    · rintro ⟨y, hy, rfl⟩
      exact h.rnk_lt _ 12 0 rfl
    · intro hr
      obtain ⟨f, g1, g2⟩ := h.onto hp hr
      obtain ⟨y, hy, e⟩ := (hall f).mp g1
      exact ⟨y, hy, by rw [e]; exact g2⟩
theorem ball_dia {s : CS} {ts : List (Nat → Nat)} (h : CP s (Gen ts)) (hp : ∀ t ∈ ts, Pm t) (hf : oN ts ≤ 1500) {B : BL} (hB : BaS (mvs ts) 1500 B) {x : (Nat → Nat) × Nat} (hx : B[B.length - 1]? = some x) : IsDia ts x.2 := by
  have hall := ball_all h hp hf hB
  have hm := List.mem_of_getElem? hx
  refine ⟨⟨x.1, (hall _).mpr ⟨x, hm, rfl⟩, hB.1 x hm⟩, fun f d hd => ?_⟩
  obtain ⟨y, hy, e⟩ := (hall f).mp (Rn_gen hp hd.1)
  obtain ⟨j, hj⟩ := List.getElem?_of_mem hy
  have hjl := (List.getElem?_eq_some_iff.mp hj).1
  have := hB.2.2.1 j (B.length - 1) y x (by omega) hj hx
  have e2 := hB.1 y hy
  rw [e] at e2
  rw [hd.uniq e2]
  exact this
