theorem nx_cnt : ∀ j : Fin 32, (UInt32.ofNat j.val &&& Int32.toUInt32 31).toNat % 32 = j.val := by decide +kernel
theorem nx_and (a b : Nat) : nI a &&& nI b = nI (a &&& b) := by
  apply Int32.toBitVec_inj.1
  show BitVec.ofNat 32 a &&& BitVec.ofNat 32 b = BitVec.ofNat 32 (a &&& b)
  apply BitVec.eq_of_getLsbD_eq
  intro i hi
  simp [hi]
theorem nx_ush {k j : Nat} (hk : k < 65536) (hj : j < 32) : ((nI k).toUInt32 >>> ((nI j).toUInt32 &&& Int32.toUInt32 31)).toInt32 = nI (k >>> j) := by
  have hs : k >>> j ≤ k := by
    rw [Nat.shiftRight_eq_div_pow]
    exact Nat.div_le_self _ _
  have e2 : UInt32.ofNat k >>> (UInt32.ofNat j &&& Int32.toUInt32 31) = UInt32.ofNat (k >>> j) := by
    apply UInt32.toNat_inj.1
    have h1 : (UInt32.ofNat k).toNat = k := Nat.mod_eq_of_lt (by omega)
    have h2 : (UInt32.ofNat (k >>> j)).toNat = k >>> j := Nat.mod_eq_of_lt (by omega)
    rw [UInt32.toNat_shiftRight, nx_cnt ⟨j, hj⟩, h1, h2]
  show (UInt32.ofNat k >>> (UInt32.ofNat j &&& Int32.toUInt32 31)).toInt32 = _
  rw [e2]
  rfl
theorem nx_bit {k j : Nat} (hk : k < 65536) (hj : j < 16) : (((nI k).toUInt32 >>> ((nI j).toUInt32 &&& Int32.toUInt32 31)).toInt32 &&& 1) = 0 ↔ k.testBit j = false := by
  rw [nx_ush hk (by omega)]
  show nI (k >>> j) &&& nI 1 = 0 ↔ _
  rw [nx_and, Nat.and_one_is_mod, ← nI_0, nI_eq (by omega) (by omega), Nat.testBit_eq_decide_div_mod_eq, Nat.shiftRight_eq_div_pow, decide_eq_false_iff_not]
  generalize k / 2 ^ j = z
  omega
theorem fa_or (a b : Nat) : nI a ||| nI b = nI (a ||| b) := by
  apply Int32.toBitVec_inj.1
  show BitVec.ofNat 32 a ||| BitVec.ofNat 32 b = BitVec.ofNat 32 (a ||| b)
  apply BitVec.eq_of_getLsbD_eq
  intro i hi
  simp [hi]
/-! cycles are written -/
theorem shl1 : ∀ p, p < 12 → (Int32.ofInt 1) <<< (nI p &&& 31) = nI (2 ^ p) := by decide
def msk : List Nat → Nat
  | [] => 0
  | p :: l => 2 ^ p ||| msk l
theorem msk_tb : ∀ (l : List Nat) (j : Nat), (msk l).testBit j = decide (j ∈ l)
  | [], j => by simp [msk]
  | p :: l, j => by
    show (2 ^ p ||| msk l).testBit j = _
    rw [Nat.testBit_or, msk_tb l j, Nat.testBit_two_pow]
    by_cases h : p = j
    · subst h
      simp
    · simp [h, Ne.symm h]
theorem msk_app (a b : List Nat) : msk (a ++ b) = msk a ||| msk b := Nat.eq_of_testBit_eq fun j => by
  rw [Nat.testBit_or, msk_tb, msk_tb, msk_tb]
  simp [List.mem_append, Bool.decide_or]
theorem msk_lt : ∀ {l : List Nat}, (∀ p ∈ l, p < 12) → msk l < 2 ^ 12
  | [], _ => by decide
  | p :: l, h => Nat.or_lt_two_pow (Nat.pow_lt_pow_right (by decide) (h p List.mem_cons_self)) (msk_lt (fun q hq => h q (List.mem_cons_of_mem _ hq)))
def num (v : Nat) : List Nat := (if 9 < v then [48 + v / 10] else []) ++ [48 + v % 10]
def crt : List Nat → List Nat
  | [] => []
  | p :: r => 40 :: (num p ++ (r.flatMap (fun q => 32 :: num q) ++ [41]))
/-- after how many steps a place comes back -/
def perN (f : Nat → Nat) (p : Nat) : Nat := ((List.range 12).find? (fun i => pw f (i + 1) p == p)).getD 0 + 1
def cyl (f : Nat → Nat) (p : Nat) : List Nat := (List.range (perN f p)).map (fun i => pw f i p)
theorem pw_succ (f : Nat → Nat) (i p : Nat) : pw f (i + 1) p = f (pw f i p) := by
  rw [pw_add]
  rfl
theorem perN_spec {f : Nat → Nat} (h : Pm f) {p : Nat} (hp : p < 12) : perN f p ≤ 12 ∧ pw f (perN f p) p = p ∧ ∀ b, 1 ≤ b → b < perN f p → pw f b p ≠ p := by
  unfold perN
  cases hc : (List.range 12).find? (fun i => pw f (i + 1) p == p) with
  | none =>
    rw [List.find?_eq_none] at hc
    obtain ⟨a, h1, h2, h3⟩ := pw_pt h hp
    exact absurd (by simp; rw [show a - 1 + 1 = a by omega]; exact h3) (hc (a - 1) (List.mem_range.mpr (by omega)))
  | some i =>
    have h1 := List.find?_some hc
    have h2 := List.mem_range.mp (List.mem_of_find?_eq_some hc)
    simp only [beq_iff_eq] at h1
    refine ⟨by simp only [Option.getD_some]; omega, h1, fun b hb hb2 z => ?_⟩
    simp only [Option.getD_some] at hb2
    rw [List.find?_eq_some_iff_getElem] at hc
    obtain ⟨-, j, hj, hji, hlt⟩ := hc
    rw [List.getElem_range] at hji
    have := hlt (b - 1) (by omega)
    rw [List.getElem_range, show b - 1 + 1 = b by omega] at this
    simp [z] at this
theorem cyl_lt {f : Nat → Nat} (h : Pm f) {p : Nat} (hp : p < 12) : ∀ q ∈ cyl f p, q < 12 := fun q hq => by
  obtain ⟨i, -, rfl⟩ := List.mem_map.mp hq
  exact (pw_pm h i).1 p hp
theorem cyl_nd {f : Nat → Nat} (h : Pm f) {p : Nat} (hp : p < 12) : (cyl f p).Nodup := by
  obtain ⟨-, -, h3⟩ := perN_spec h hp
  refine nodup_map (fun i hi j hj e => ?_) List.nodup_range
  rw [List.mem_range] at hi hj
  have key : ∀ i j, i < j → j < perN f p → pw f i p ≠ pw f j p := fun i j hij hj e => by
    have e1 : pw f j = cmp (pw f (j - i)) (pw f i) := by rw [← pw_add]; congr 1; omega
    have e2 : pw f i (pw f (j - i) p) = pw f i p := by
      have : pw f j p = pw f i (pw f (j - i) p) := by rw [e1]; rfl
      rw [← this]
      exact e.symm
    exact h3 (j - i) (by omega) (by omega) ((pw_pm h i).inj e2)
  rcases Nat.lt_trichotomy i j with q | q | q
  · exact absurd e (key i j q hj)
  · exact q
  · exact absurd e.symm (key j i q hi)
/-- what was written: whole cycles -/
def Vi (f : Nat → Nat) (vis : List Nat) : Prop := vis.Nodup ∧ (∀ v ∈ vis, v < 12) ∧ ∀ v ∈ vis, ∃ u ∈ vis, f u = v
theorem Vi.add {f : Nat → Nat} (h : Pm f) {vis : List Nat} (hv : Vi f vis) {p : Nat} (hp : p < 12) (hn : p ∉ vis) : Vi f (vis ++ cyl f p) := by
  obtain ⟨v1, v2, v3⟩ := hv
  obtain ⟨p1, p2, p3⟩ := perN_spec h hp
  have hno : ∀ i, pw f i p ∉ vis := by
    intro i
    induction i with
    | zero => exact hn
    | succ i ih =>
      intro z
      rw [pw_succ] at z
      obtain ⟨u, hu, e⟩ := v3 _ z
      rw [← h.inj e] at ih
      exact ih hu
  refine ⟨?_, fun v hv => ?_, fun v hv => ?_⟩
  · rw [List.nodup_append]
    refine ⟨v1, cyl_nd h hp, fun a ha b hb e => ?_⟩
    obtain ⟨i, -, rfl⟩ := List.mem_map.mp hb
    exact hno i (by rw [← e]; exact ha)
  · rcases List.mem_append.mp hv with hv | hv
    · exact v2 v hv
    · exact cyl_lt h hp v hv
  · rcases List.mem_append.mp hv with hv | hv
    · obtain ⟨u, hu, e⟩ := v3 v hv
      exact ⟨u, List.mem_append_left _ hu, e⟩
    · obtain ⟨i, hi, rfl⟩ := List.mem_map.mp hv
      rw [List.mem_range] at hi
      cases i with
      | zero =>
        refine ⟨pw f (perN f p - 1) p, List.mem_append_right _ (List.mem_map.mpr ⟨perN f p - 1, List.mem_range.mpr (by omega), rfl⟩), ?_⟩
        rw [← pw_succ f, show perN f p - 1 + 1 = perN f p by omega, p2]
        rfl
      | succ i => exact ⟨pw f i p, List.mem_append_right _ (List.mem_map.mpr ⟨i, List.mem_range.mpr (by omega), rfl⟩), (pw_succ f i p).symm⟩
def wrL (f : Nat → Nat) : Nat → Nat → List Nat → List Nat
  | 0, _, _ => []
  | n + 1, p, vis => if p ∉ vis ∧ f p ≠ p then crt (cyl f p) ++ wrL f n (p + 1) (vis ++ cyl f p) else wrL f n (p + 1) vis
theorem num_len (v : Nat) : (num v).length ≤ 2 := by
  unfold num
  split <;> simp
theorem flat_le : ∀ r : List Nat, (r.flatMap (fun q => 32 :: num q)).length ≤ 3 * r.length
  | [] => by simp
  | q :: r => by
    have h1 := flat_le r
    have h2 := num_len q
    simp only [List.flatMap_cons, List.length_append, List.length_cons]
    omega
section
variable {l : Launch} {E : En}
theorem c_addNumber {w : Wd} {tx : List Nat} {v : Nat} {po : Option AV → Wd → Prop} (G : GC l E) (hw : TxW w tx) (hl : tx.length + 2 ≤ 48) (hv : v < 12) (hpo : ∀ u, TxW u (tx ++ num v) → Sm txK w u → po none u) : Ctr l E 2 0 mX3_addNumber [vR 1, vI (nI v)] w po noX := by
  refine Ctr.of (tw := []) G.1 G.2 oX3_ok pgX3_addNumber rfl (by decide) rfl rfl (Nat.le_of_ble_eq_true rfl) ?_
  intro V hV
  have low : ∀ (u : Wd) (t1 : List Nat), TxW u t1 → t1.length < 48 → Sm txK w u → t1 ++ [48 + v % 10] = tx ++ num v → V 18 [some (vR 1), some (vI (nI v))] [] u 0 := by
    intro u t1 hu hlt hsm e
    iterate 4 refine hV.go rfl ?_
    refine hV.go rfl ?_
    refine And.intro (by decide) ?_
    refine topI (V := V) (show nI v - nI v / nI 10 * nI 10 = nI (v % 10) from pk_rem (by omega) (by decide) (by decide)) ?_
    refine hV.go rfl ?_
    refine topI (V := V) (show nI 48 + nI (v % 10) = nI (48 + v % 10) from nI_add _ _) ?_
    refine hV.go rfl ?_
    refine topI (V := V) (i2c_nI (by omega)) ?_
    refine hV.go rfl ?_
    refine And.intro (callP_r (c_addSign (c := 48 + v % 10) (po := fun r z => r = none ∧ TxW z (t1 ++ [48 + v % 10]) ∧ Sm txK u z) G hu hlt (by omega) (fun z y1 y2 => ⟨rfl, y1, y2⟩)) (by decide) (by decide) (fun r z hp => ?_)) trivial
    obtain ⟨rfl, y1, y2⟩ := hp
    refine hV.go rfl ?_
    rw [e] at y1
    exact ⟨hpo z y1 (hsm.tr y2), Nat.le_refl _⟩
  iterate 3 refine hV.go rfl ?_
  refine And.intro (fun hc => ?_) (fun hc => ?_)
  · have hc : nI v ≤ nI 9 := hc
    rw [nI_leI (by omega) (by decide)] at hc
    exact low w tx hw (by omega) Sm.rf (by unfold num; rw [if_neg (by omega)]; rfl)
  · have hc : ¬ nI v ≤ nI 9 := hc
    rw [nI_leI (by omega) (by decide)] at hc
    iterate 5 refine hV.go rfl ?_
    refine And.intro (by decide) ?_
    refine topI (V := V) (show nI v / nI 10 = nI (v / 10) from pk_div (by omega) (by decide) (by decide)) ?_
    refine hV.go rfl ?_
    refine topI (V := V) (show nI 48 + nI (v / 10) = nI (48 + v / 10) from nI_add _ _) ?_
    refine hV.go rfl ?_
    refine topI (V := V) (i2c_nI (by omega)) ?_
    refine hV.go rfl ?_
    refine And.intro (callP_r (c_addSign (c := 48 + v / 10) (po := fun r z => r = none ∧ TxW z (tx ++ [48 + v / 10]) ∧ Sm txK w z) G hw (by omega) (by omega) (fun z y1 y2 => ⟨rfl, y1, y2⟩)) (by decide) (by decide) (fun r z hp => ?_)) trivial
    obtain ⟨rfl, y1, y2⟩ := hp
    exact low z _ y1 (by simp; omega) y2 (by unfold num; rw [if_pos (by omega), List.append_assoc])
theorem c_writeCycle {w : Wd} {tx : List Nat} {f : Nat → Nat} {p : Nat} {po : Option AV → Wd → Prop} (G : GC l E) (hw : TxW w tx) (hf : Pm f) (hp : p < 12) (hl : tx.length + 4 * perN f p ≤ 48) (hpo : ∀ u, TxW u (tx ++ crt (cyl f p)) → Sm txK w u → po (some (vI (nI (msk (cyl f p))))) u) : Ctr l E 3 0 mX3_writeCycle [vR 1, vJ (rw f), vI (nI p)] w po noX := by
  refine Ctr.of (tw := []) G.1 G.2 oX3_ok pgX3_writeCycle rfl (by decide) rfl rfl (Nat.le_of_ble_eq_true rfl) ?_
  intro V hV
  obtain ⟨p1, p2, p3⟩ := perN_spec hf hp
  have hpos : 1 ≤ perN f p := by unfold perN; omega
  obtain ⟨a, ha⟩ : ∃ a, a = perN f p := ⟨_, rfl⟩
  rw [← ha] at p1 p2 p3 hl hpos
  have eC : ∀ i, 1 ≤ i → crt ((List.range i).map (fun i => pw f i p)) = 40 :: (num p ++ (((List.range (i - 1)).map (fun j => pw f (j + 1) p)).flatMap (fun q => 32 :: num q) ++ [41])) := by
    intro i hi
    obtain ⟨j, rfl⟩ : ∃ j, i = j + 1 := ⟨i - 1, by omega⟩
    rw [List.range_succ_eq_map, List.map_cons, List.map_map]
    rfl
  have hmk : ∀ i, msk ((List.range i).map (fun i => pw f i p)) < 2 ^ 12 := fun i => msk_lt (fun q hq => by
    obtain ⟨j, -, rfl⟩ := List.mem_map.mp hq
    exact (pw_pm hf j).1 p hp)
  -- the sign behind
  have fin : ∀ (u : Wd) (x5 x6 : Option AV), TxW u (tx ++ 40 :: (num p ++ ((List.range (a - 1)).map (fun j => pw f (j + 1) p)).flatMap (fun q => 32 :: num q))) → Sm txK w u → V 74 [some (vR 1), some (vJ (rw f)), none, some (vI (nI p)), some (vI (nI (msk (cyl f p)))), x5, x6] [] u 0 := by
    intro u x5 x6 hu hsm
    have hlen : (tx ++ 40 :: (num p ++ ((List.range (a - 1)).map (fun j => pw f (j + 1) p)).flatMap (fun q => 32 :: num q))).length < 48 := by
      have h1 := num_len p
      have h2 := flat_le ((List.range (a - 1)).map (fun j => pw f (j + 1) p))
      simp only [List.length_append, List.length_cons, List.length_map, List.length_range] at h2 ⊢
      omega
    iterate 3 refine hV.go rfl ?_
    refine And.intro (callP_r (c_addSign (c := 41) (po := fun r z => r = none ∧ TxW z (tx ++ 40 :: (num p ++ ((List.range (a - 1)).map (fun j => pw f (j + 1) p)).flatMap (fun q => 32 :: num q)) ++ [41]) ∧ Sm txK u z) G hu hlen (by decide) (fun z y1 y2 => ⟨rfl, y1, y2⟩)) (by decide) (by decide) (fun r z hp => ?_)) trivial
    obtain ⟨rfl, y1, y2⟩ := hp
    iterate 2 refine hV.go rfl ?_
    refine ⟨hpo z ?_ (hsm.tr y2), Nat.le_refl _⟩
    have : cyl f p = (List.range a).map (fun i => pw f i p) := by unfold cyl; rw [ha]
    rw [this, eC a hpos]
    rw [List.append_assoc, List.cons_append, List.append_assoc] at y1
    exact y1
  have loop : ∀ c i : Nat, 1 ≤ i → i + c = a → ∀ u : Wd, TxW u (tx ++ 40 :: (num p ++ ((List.range (i - 1)).map (fun j => pw f (j + 1) p)).flatMap (fun q => 32 :: num q))) → Sm txK w u → V 26 [some (vR 1), some (vJ (rw f)), none, some (vI (nI p)), some (vI (nI (msk ((List.range i).map (fun i => pw f i p))))), some (vI (nI (pw f i p))), some (vI (nI i))] [] u 0 := by
    intro c
    induction c with
    | zero =>
      intro i hi1 hi u hu hsm
      have hia : i = a := by omega
      subst hia
      have e : (List.range i).map (fun i => pw f i p) = cyl f p := by unfold cyl; rw [ha]
      rw [e]
      iterate 3 refine hV.go rfl ?_
      refine And.intro (fun hc => ?_) (fun hc => ?_)
      · exact fin u _ _ hu hsm
      · iterate 3 refine hV.go rfl ?_
        refine And.intro (fun hc2 => ?_) (fun hc2 => ?_)
        · exact fin u _ _ hu hsm
        · exact absurd (show nI (pw f i p) = nI p by rw [p2]) hc2
    | succ c ih =>
      intro i hi1 hi u hu hsm
      have hne := p3 i hi1 (by omega)
      have hq := (pw_pm hf i).1 p hp
      have hlen : (tx ++ 40 :: (num p ++ ((List.range (i - 1)).map (fun j => pw f (j + 1) p)).flatMap (fun q => 32 :: num q))).length + 3 ≤ 48 := by
        have h1 := num_len p
        have h2 := flat_le ((List.range (i - 1)).map (fun j => pw f (j + 1) p))
        simp only [List.length_append, List.length_cons, List.length_map, List.length_range] at h2 ⊢
        omega
      iterate 3 refine hV.go rfl ?_
      refine And.intro (fun hc => ?_) (fun hc => ?_)
      · have hc : nI 12 ≤ nI i := hc
        rw [nI_leI (by decide) (by omega)] at hc
        omega
      · iterate 3 refine hV.go rfl ?_
        refine And.intro (fun hc2 => ?_) (fun hc2 => ?_)
        · have hc2 : nI (pw f i p) = nI p := hc2
          rw [nI_eq (by omega) (by omega)] at hc2
          exact absurd hc2 hne
        · iterate 3 refine hV.go rfl ?_
          refine And.intro (callP_r (c_addSign (c := 32) (po := fun r z => r = none ∧ TxW z (tx ++ 40 :: (num p ++ ((List.range (i - 1)).map (fun j => pw f (j + 1) p)).flatMap (fun q => 32 :: num q)) ++ [32]) ∧ Sm txK u z) G hu (by omega) (by decide) (fun z y1 y2 => ⟨rfl, y1, y2⟩)) (by decide) (by decide) (fun r z hp => ?_)) trivial
          obtain ⟨rfl, y1, y2⟩ := hp
          iterate 3 refine hV.go rfl ?_
          refine And.intro (callP_r (c_addNumber (v := pw f i p) (po := fun r z' => r = none ∧ TxW z' (tx ++ 40 :: (num p ++ ((List.range (i - 1)).map (fun j => pw f (j + 1) p)).flatMap (fun q => 32 :: num q)) ++ [32] ++ num (pw f i p)) ∧ Sm txK z z') G y1 (by rw [List.length_append]; simp only [List.length_cons, List.length_nil]; omega) hq (fun z' t1 t2 => ⟨rfl, t1, t2⟩)) (by decide) (by decide) (fun r z' hp => ?_)) trivial
          obtain ⟨rfl, t1, t2⟩ := hp
          iterate 4 refine hV.go rfl ?_
          refine topI (V := V) (shl1 _ hq) ?_
          refine hV.go rfl ?_
          refine topI (V := V) (fa_or _ _) ?_
          iterate 4 refine hV.go rfl ?_
          refine And.intro (callP_v (c_at G hf.lt16 hq z') (by decide) (by decide) ?_) trivial
          iterate 3 refine hV.go rfl ?_
          have := ih (i + 1) (by omega) (by omega) z' (by
            have e : (List.range (i + 1 - 1)).map (fun j => pw f (j + 1) p) = (List.range (i - 1)).map (fun j => pw f (j + 1) p) ++ [pw f i p] := by
              rw [show i + 1 - 1 = (i - 1) + 1 by omega, List.range_succ, List.map_append, List.map_singleton, show i - 1 + 1 = i by omega]
            rw [e, List.flatMap_append]
            simpa [List.append_assoc] using t1) ((hsm.tr y2).tr t2)
          rw [List.range_succ, List.map_append, msk_app, show msk ([i].map (fun i => pw f i p)) = 2 ^ pw f i p by simp [msk], pw_succ, ← nI_inc] at this
          exact this
  iterate 3 refine hV.go rfl ?_
  refine And.intro (callP_r (c_addSign (c := 40) (po := fun r z => r = none ∧ TxW z (tx ++ [40]) ∧ Sm txK w z) G hw (by omega) (by decide) (fun z y1 y2 => ⟨rfl, y1, y2⟩)) (by decide) (by decide) (fun r z hp => ?_)) trivial
  obtain ⟨rfl, y1, y2⟩ := hp
  iterate 3 refine hV.go rfl ?_
  refine And.intro (callP_r (c_addNumber (v := p) (po := fun r z' => r = none ∧ TxW z' (tx ++ [40] ++ num p) ∧ Sm txK z z') G y1 (by simp; omega) hp (fun z' t1 t2 => ⟨rfl, t1, t2⟩)) (by decide) (by decide) (fun r z' hp => ?_)) trivial
  obtain ⟨rfl, t1, t2⟩ := hp
  iterate 3 refine hV.go rfl ?_
  refine topI (V := V) (shl1 p hp) ?_
  iterate 4 refine hV.go rfl ?_
  refine And.intro (callP_v (c_at G hf.lt16 hp z') (by decide) (by decide) ?_) trivial
  iterate 3 refine hV.go rfl ?_
  have := loop (a - 1) 1 (Nat.le_refl _) (by omega) z' (by simpa using t1) (y2.tr t2)
  have e1 : msk ((List.range 1).map (fun i => pw f i p)) = 2 ^ p := by simp [msk, List.range_succ, pw, idp]
  have e2 : pw f 1 p = f p := rfl
  rw [e1, e2] at this
  exact this
theorem c_writeCycles {w : Wd} {tx0 : List Nat} {f : Nat → Nat} {po : Option AV → Wd → Prop} (G : GC l E) (hw0 : TxW w tx0) (hf : Pm f) (hpo : ∀ u, TxW u (wrL f 12 0 []) → Sm txK w u → po (some (vI (nI (wrL f 12 0 []).length))) u) : Ctr l E 4 0 mX3_writeCycles [vR 1, vJ (rw f)] w po noX := by
  refine Ctr.of (tw := []) G.1 G.2 oX3_ok pgX3_writeCycles rfl (by decide) rfl rfl (Nat.le_of_ble_eq_true rfl) ?_
  intro V hV
  have loop : ∀ n p : Nat, p + n = 12 → ∀ (u : Wd) (tx vis : List Nat), TxW u tx → Sm txK w u → Vi f vis → tx.length ≤ 4 * vis.length → tx ++ wrL f n p vis = wrL f 12 0 [] → V 10 [some (vR 1), some (vJ (rw f)), none, some (vI (nI (msk vis))), some (vI (nI p))] [] u 0 := by
    intro n
    induction n with
    | zero =>
      intro p hp u tx vis hu hsm hvi hlen he
      have hp : p = 12 := by omega
      subst hp
      have he : tx = wrL f 12 0 [] := by simpa [wrL] using he
      iterate 3 refine hV.go rfl ?_
      refine And.intro (fun hc => ?_) (fun hc => ?_)
      · iterate 2 refine hV.go rfl ?_
        refine topI (V := V) hu.1 ?_
        refine hV.go rfl ?_
        have := hpo u (by rw [← he]; exact hu) hsm
        rw [← he] at this
        exact ⟨this, Nat.le_refl _⟩
      · exact absurd (show nI 12 ≤ nI 12 from nI_le (Nat.le_refl _) (by decide)) hc
    | succ n ih =>
      intro p hp u tx vis hu hsm hvi hlen he
      have hp12 : p < 12 := by omega
      have hfp := hf.1 p hp12
      have hm := msk_lt hvi.2.1
      have skip : ¬ (p ∉ vis ∧ f p ≠ p) → V 47 [some (vR 1), some (vJ (rw f)), none, some (vI (nI (msk vis))), some (vI (nI p))] [] u 0 := by
        intro hno
        iterate 2 refine hV.go rfl ?_
        unfold wrL at he
        rw [if_neg hno] at he
        have := ih (p + 1) (by omega) u tx vis hu hsm hvi hlen he
        rw [← nI_inc] at this
        exact this
      iterate 3 refine hV.go rfl ?_
      refine And.intro (fun hc => ?_) (fun hc => ?_)
      · have hc : nI 12 ≤ nI p := hc
        rw [nI_leI (by decide) (by omega)] at hc
        omega
      · iterate 6 refine hV.go rfl ?_
        refine And.intro (fun hc => ?_) (fun hc => ?_)
        · have hin : p ∈ vis := by
            have h1 : ¬ (msk vis).testBit p = false := fun z => hc ((nx_bit (by omega) (by omega)).mpr z)
            rw [msk_tb] at h1
            simpa using h1
          exact skip (fun z => z.1 hin)
        · have hin : p ∉ vis := by
            have h1 := (nx_bit (k := msk vis) (j := p) (by omega) (by omega)).mp (Classical.not_not.mp hc)
            rw [msk_tb] at h1
            simpa using h1
          iterate 3 refine hV.go rfl ?_
          refine And.intro (callP_v (c_at G hf.lt16 hp12 u) (by decide) (by decide) ?_) trivial
          iterate 2 refine hV.go rfl ?_
          refine And.intro (fun hc => ?_) (fun hc => ?_)
          · have hc : nI (f p) = nI p := hc
            rw [nI_eq (by omega) (by omega)] at hc
            exact skip (fun z => z.2 hc)
          · have hne : f p ≠ p := fun z => hc (show nI (f p) = nI p by rw [z])
            have hvi2 := hvi.add hf hp12 hin
            have hvl := nodup_len hvi2.1 hvi2.2.1
            have hcl : (cyl f p).length = perN f p := by unfold cyl; simp
            rw [List.length_append, hcl] at hvl
            iterate 5 refine hV.go rfl ?_
            refine And.intro (callP_r (c_writeCycle (p := p) (po := fun r z => r = some (vI (nI (msk (cyl f p)))) ∧ TxW z (tx ++ crt (cyl f p)) ∧ Sm txK u z) G hu hf hp12 (by omega) (fun z y1 y2 => ⟨rfl, y1, y2⟩)) (by decide) (by decide) (fun r z hp => ?_)) trivial
            obtain ⟨rfl, y1, y2⟩ := hp
            refine hV.go rfl ?_
            refine topI (V := V) (fa_or _ _) ?_
            iterate 3 refine hV.go rfl ?_
            unfold wrL at he
            rw [if_pos ⟨hin, hne⟩] at he
            have hcrt : (crt (cyl f p)).length ≤ 4 * perN f p := by
              have hpos : 0 < (cyl f p).length := by rw [hcl]; unfold perN; omega
              rw [← hcl]
              cases hcy : cyl f p with
              | nil => rw [hcy] at hpos; exact absurd hpos (by decide)
              | cons a r =>
                have h1 := num_len a
                have h2 := flat_le r
                simp only [crt, List.length_cons, List.length_append, List.length_nil] at h1 h2 ⊢
                omega
            have := ih (p + 1) (by omega) z (tx ++ crt (cyl f p)) (vis ++ cyl f p) y1 (hsm.tr y2) hvi2 (by
              rw [List.length_append, List.length_append, hcl]
              omega) (by rw [List.append_assoc]; exact he)
            rw [msk_app, ← nI_inc] at this
            exact this
  iterate 7 refine hV.go rfl ?_
  refine loop 12 0 (by omega) _ [] [] ⟨?_, by simp, fun i c hc => by simp at hc⟩ (Sm.wI (k := 1) Sm.rf (by decide)) ⟨List.nodup_nil, (fun v hv => nomatch hv), (fun v hv => nomatch hv)⟩ (Nat.le_refl _) rfl
  simp [wI_get]
  rfl
end
