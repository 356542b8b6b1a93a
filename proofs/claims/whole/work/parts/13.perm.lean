theorem wb_tb (n : Nat) : (lN n).toBitVec = BitVec.ofNat 64 n := rfl
theorem wb_inj {a b : Int64} (h : a.toBitVec = b.toBitVec) : a = b := Int64.toBitVec_inj.mp h
theorem wb_tn {n : Nat} (h : n < 2 ^ 64) : (lN n).toBitVec.toNat = n := by rw [wb_tb, BitVec.toNat_ofNat, Nat.mod_eq_of_lt h]
theorem wb_of (x : Int64) : ∃ n, n < 2 ^ 64 ∧ x = lN n := ⟨x.toBitVec.toNat, x.toBitVec.isLt, wb_inj (by rw [wb_tb]; simp)⟩
theorem wb_of32 (x : Int32) : ∃ n, n < 2 ^ 32 ∧ x = nI n := ⟨x.toBitVec.toNat, x.toBitVec.isLt, Int32.toBitVec_inj.mp (by show _ = BitVec.ofNat 32 _; simp)⟩
theorem wb_c : ∀ k, k < 64 → ((nI k).toInt64 &&& 63) = lN k := by decide +kernel
theorem wb_cu : ∀ k, k < 64 → ((nI k).toInt64.toUInt64 &&& Int64.toUInt64 63) = UInt64.ofNat k := by decide +kernel
theorem wb_sm : ∀ k, k < 64 → (BitVec.ofNat 64 k).smod 64 = BitVec.ofNat 64 k := by decide +kernel
theorem wb_pw {a b : Nat} (h : a ≤ b) : 2 ^ b = 2 ^ a * 2 ^ (b - a) := by rw [← Nat.pow_add]; congr 1; omega
theorem wb_lt2 {a b : Nat} (h : a < b) : 2 ^ a < 2 ^ b := Nat.pow_lt_pow_right (by decide) h
theorem wb_mod (n : Nat) : lN n = lN (n % 2 ^ 64) := wb_inj (by rw [wb_tb, wb_tb]; apply BitVec.eq_of_toNat_eq; rw [BitVec.toNat_ofNat, BitVec.toNat_ofNat, Nat.mod_mod])
theorem wb_shr {n k : Nat} (hn : n < 2 ^ 64) (hk : k < 64) : ((lN n).toUInt64 >>> ((nI k).toInt64.toUInt64 &&& Int64.toUInt64 63)).toInt64 = lN (n / 2 ^ k) := by
  rw [wb_cu k hk]
  apply wb_inj
  apply BitVec.eq_of_toNat_eq
  show ((lN n).toUInt64 >>> UInt64.ofNat k).toNat = (BitVec.ofNat 64 _).toNat
  have h1 : (UInt64.ofNat k).toNat = k := by
    show (BitVec.ofNat 64 k).toNat = k
    rw [BitVec.toNat_ofNat, Nat.mod_eq_of_lt (by omega)]
  have h2 : (lN n).toUInt64.toNat = n := wb_tn hn
  rw [UInt64.toNat_shiftRight, h1, h2, Nat.mod_eq_of_lt hk, Nat.shiftRight_eq_div_pow, BitVec.toNat_ofNat, Nat.mod_eq_of_lt (Nat.lt_of_le_of_lt (Nat.div_le_self _ _) hn)]
theorem wb_shl (n : Nat) {k : Nat} (hk : k < 64) : lN n <<< ((nI k).toInt64 &&& 63) = lN (n * 2 ^ k) := by
  rw [wb_c k hk]
  apply wb_inj
  rw [Int64.toBitVec_shiftLeft, wb_tb, wb_tb, wb_tb, wb_sm k hk]
  apply BitVec.eq_of_toNat_eq
  rw [BitVec.shiftLeft_eq', BitVec.toNat_shiftLeft, BitVec.toNat_ofNat, BitVec.toNat_ofNat, BitVec.toNat_ofNat, Nat.mod_eq_of_lt (show k < 2 ^ 64 by omega), Nat.shiftLeft_eq, Nat.mul_mod, Nat.mod_mod, ← Nat.mul_mod]
theorem wb_and {a b : Nat} (ha : a < 2 ^ 64) (hb : b < 2 ^ 64) : lN a &&& lN b = lN (a &&& b) := by
  apply wb_inj
  rw [Int64.toBitVec_and, wb_tb, wb_tb, wb_tb]
  apply BitVec.eq_of_toNat_eq
  rw [BitVec.toNat_and, BitVec.toNat_ofNat, BitVec.toNat_ofNat, BitVec.toNat_ofNat, Nat.mod_eq_of_lt ha, Nat.mod_eq_of_lt hb, Nat.mod_eq_of_lt (Nat.and_lt_two_pow _ hb)]
theorem wb_or {a b : Nat} (ha : a < 2 ^ 64) (hb : b < 2 ^ 64) : lN a ||| lN b = lN (a ||| b) := by
  apply wb_inj
  rw [Int64.toBitVec_or, wb_tb, wb_tb, wb_tb]
  apply BitVec.eq_of_toNat_eq
  rw [BitVec.toNat_or, BitVec.toNat_ofNat, BitVec.toNat_ofNat, BitVec.toNat_ofNat, Nat.mod_eq_of_lt ha, Nat.mod_eq_of_lt hb, Nat.mod_eq_of_lt (Nat.or_lt_two_pow ha hb)]
theorem wb_mask {n k : Nat} (hn : n < 2 ^ 64) (hk : k < 64) : lN n &&& lN (2 ^ k - 1) = lN (n % 2 ^ k) := by
  rw [wb_and hn (by have := wb_lt2 hk; omega), Nat.and_two_pow_sub_one_eq_mod]
theorem wb_a1 {n : Nat} (hn : n < 2 ^ 64) : lN n &&& 1 = lN (n % 2) := wb_mask (k := 1) hn (by decide)
theorem wb_bit {n k : Nat} (hn : n < 2 ^ 64) (hk : k < 64) : ((lN n).toUInt64 >>> ((nI k).toInt64.toUInt64 &&& Int64.toUInt64 63)).toInt64 &&& 1 = lN (n / 2 ^ k % 2) := by
  rw [wb_shr hn hk, wb_a1 (Nat.lt_of_le_of_lt (Nat.div_le_self _ _) hn)]
theorem wb_xor {q k : Nat} (hk : k < 63) (h : 2 ^ k ≤ q) (h2 : q < 2 ^ (k + 1)) : lN q ^^^ lN (2 ^ k) = lN (q - 2 ^ k) := by
  obtain ⟨r, rfl⟩ : ∃ r, q = 2 ^ k + r := ⟨q - 2 ^ k, by omega⟩
  have hr : r < 2 ^ k := by rw [Nat.pow_succ] at h2; omega
  have hx : (2 ^ k + r) ^^^ 2 ^ k = r := by
    apply Nat.eq_of_testBit_eq
    intro i
    rw [Nat.testBit_xor, Nat.testBit_two_pow]
    rcases Nat.lt_trichotomy i k with h | h | h
    · rw [Nat.testBit_two_pow_add_gt h]
      simp [show ¬ k = i by omega]
    · subst h
      rw [Nat.testBit_two_pow_add_eq]
      simp
    · have a1 : 2 ^ (k + 1) ≤ 2 ^ i := Nat.pow_le_pow_right (by decide) h
      rw [Nat.testBit_lt_two_pow (show 2 ^ k + r < 2 ^ i by omega), Nat.testBit_lt_two_pow (show r < 2 ^ i by omega)]
      simp [show ¬ k = i by omega]
  have b1 := wb_lt2 (show k + 1 < 64 by omega)
  have b2 := wb_lt2 (show k < 64 by omega)
  apply wb_inj
  rw [Int64.toBitVec_xor, wb_tb, wb_tb, wb_tb]
  apply BitVec.eq_of_toNat_eq
  rw [BitVec.toNat_xor, BitVec.toNat_ofNat, BitVec.toNat_ofNat, BitVec.toNat_ofNat, Nat.mod_eq_of_lt (by omega : 2 ^ k + r < 2 ^ 64), Nat.mod_eq_of_lt b2, hx, Nat.add_sub_cancel_left, Nat.mod_eq_of_lt (by omega)]
/-! rows as functions: four bits a place -/
def enc (f : Nat → Nat) : Nat → Nat
  | 0 => 0
  | n + 1 => 2 ^ (4 * n) * f n + enc f n
theorem enc_lt {f : Nat → Nat} : ∀ {n : Nat}, (∀ i, i < n → f i < 16) → enc f n < 2 ^ (4 * n)
  | 0, _ => Nat.one_pos
  | n + 1, h => by
    have ih := enc_lt (n := n) (fun i hi => h i (by omega))
    have hn := h n (by omega)
    have e : 2 ^ (4 * (n + 1)) = 2 ^ (4 * n) * 16 := by rw [show 4 * (n + 1) = 4 * n + 4 by omega, Nat.pow_add]
    have h1 : 2 ^ (4 * n) * f n ≤ 2 ^ (4 * n) * 15 := Nat.mul_le_mul_left _ (by omega)
    rw [e]
    show 2 ^ (4 * n) * f n + enc f n < _
    omega
theorem enc_tb {f : Nat → Nat} : ∀ {n : Nat}, (∀ i, i < n → f i < 16) → ∀ b, (enc f n).testBit b = (decide (b / 4 < n) && (f (b / 4)).testBit (b % 4))
  | 0, _, b => by simp [enc]
  | n + 1, h, b => by
    have ih := enc_tb (n := n) (fun i hi => h i (by omega)) b
    have hl := enc_lt (f := f) (n := n) (fun i hi => h i (by omega))
    show (2 ^ (4 * n) * f n + enc f n).testBit b = _
    rw [Nat.testBit_two_pow_mul_add _ hl]
    by_cases hb : b < 4 * n
    · rw [if_pos hb, ih]
      have e1 : b / 4 < n := by omega
      simp [e1, show b / 4 < n + 1 by omega]
    · rw [if_neg hb]
      by_cases h2 : b / 4 = n
      · rw [h2, show b - 4 * n = b % 4 by omega]
        simp
      · have h3 : ¬ b / 4 < n + 1 := by omega
        simp only [h3, decide_false, Bool.false_and]
        have hn := h n (by omega)
        exact Nat.testBit_lt_two_pow (Nat.lt_of_lt_of_le hn (by
          have : 2 ^ 4 ≤ 2 ^ (b - 4 * n) := Nat.pow_le_pow_right (by decide) (by omega)
          omega))
theorem enc_congr {f g : Nat → Nat} : ∀ {n : Nat}, (∀ i, i < n → f i = g i) → enc f n = enc g n
  | 0, _ => rfl
  | n + 1, h => by
    show 2 ^ (4 * n) * f n + enc f n = 2 ^ (4 * n) * g n + enc g n
    rw [enc_congr (fun i hi => h i (by omega)), h n (by omega)]
/-- the nibble of a place -/
theorem enc_nib {f : Nat → Nat} {n i : Nat} (h : ∀ i, i < n → f i < 16) (hi : i < n) : enc f n / 2 ^ (4 * i) % 16 = f i := by
  apply Nat.eq_of_testBit_eq
  intro b
  rw [show (16 : Nat) = 2 ^ 4 from rfl, Nat.testBit_mod_two_pow, Nat.testBit_div_two_pow, enc_tb h]
  by_cases hb : b < 4
  · have e1 : (b + 4 * i) / 4 = i := by omega
    have e2 : (b + 4 * i) % 4 = b := by omega
    simp [hb, e1, e2, hi]
  · simp only [hb, decide_false, Bool.false_and]
    exact (Nat.testBit_lt_two_pow (Nat.lt_of_lt_of_le (h i hi) (by
      have : 2 ^ 4 ≤ 2 ^ b := Nat.pow_le_pow_right (by decide) (by omega)
      omega))).symm
theorem enc_nib0 {f : Nat → Nat} {n i : Nat} (h : ∀ i, i < n → f i < 16) (hi : n ≤ i) : enc f n / 2 ^ (4 * i) % 16 = 0 := by
  have h1 := enc_lt h
  have h2 : 2 ^ (4 * n) ≤ 2 ^ (4 * i) := Nat.pow_le_pow_right (by decide) (by omega)
  rw [Nat.div_eq_of_lt (by omega)]
theorem enc_inj {f g : Nat → Nat} {n : Nat} (hf : ∀ i, i < n → f i < 16) (hg : ∀ i, i < n → g i < 16) (h : enc f n = enc g n) : ∀ i, i < n → f i = g i := fun i hi => by
  rw [← enc_nib hf hi, ← enc_nib hg hi, h]
/-- a nibble that is 0 gets a value -/
theorem enc_or {f : Nat → Nat} {n i v : Nat} (h : ∀ i, i < n → f i < 16) (hi : i < n) (h0 : f i = 0) (hv : v < 16) : enc f n ||| v * 2 ^ (4 * i) = enc (fun j => if j = i then v else f j) n := by
  have h' : ∀ j, j < n → (fun j => if j = i then v else f j) j < 16 := fun j hj => by
    simp only
    split
    · exact hv
    · exact h j hj
  apply Nat.eq_of_testBit_eq
  intro b
  rw [Nat.testBit_or, enc_tb h, enc_tb h', Nat.testBit_mul_two_pow]
  by_cases hb : b / 4 = i
  · have e1 : 4 * i ≤ b := by omega
    have e2 : b - 4 * i = b % 4 := by omega
    simp [hb, h0, e1, e2, hi]
  · simp only [hb, if_false]
    by_cases h1 : 4 * i ≤ b
    · have : (v).testBit (b - 4 * i) = false := Nat.testBit_lt_two_pow (Nat.lt_of_lt_of_le hv (by
        have : 2 ^ 4 ≤ 2 ^ (b - 4 * i) := Nat.pow_le_pow_right (by decide) (by omega)
        omega))
      simp [this]
    · simp [h1]
/-- a nibble is cleared -/
theorem enc_clr {f : Nat → Nat} {n i : Nat} (h : ∀ i, i < n → f i < 16) (hn : n ≤ 16) (hi : i < n) : enc f n &&& ((15 * 2 ^ (4 * i)) ^^^ (2 ^ 64 - 1)) = enc (fun j => if j = i then 0 else f j) n := by
  have h' : ∀ j, j < n → (fun j => if j = i then 0 else f j) j < 16 := fun j hj => by
    simp only
    split
    · decide
    · exact h j hj
  apply Nat.eq_of_testBit_eq
  intro b
  rw [Nat.testBit_and, enc_tb h, enc_tb h', Nat.testBit_xor, Nat.testBit_mul_two_pow, Nat.testBit_two_pow_sub_one]
  by_cases hb : b / 4 = i
  · have e1 : 4 * i ≤ b := by omega
    have e2 : b - 4 * i = b % 4 := by omega
    have e3 : b < 64 := by omega
    have e4 : (15 : Nat).testBit (b % 4) = true := by
      have : b % 4 < 4 := by omega
      have k : ∀ r, r < 4 → (15 : Nat).testBit r = true := by decide
      exact k _ this
    simp [hb, e1, e2, e3, e4]
  · simp only [hb, if_false]
    by_cases hbn : b / 4 < n
    · have e3 : b < 64 := by omega
      by_cases h1 : 4 * i ≤ b
      · have : (15 : Nat).testBit (b - 4 * i) = false := Nat.testBit_lt_two_pow (by
          have : 2 ^ 4 ≤ 2 ^ (b - 4 * i) := Nat.pow_le_pow_right (by decide) (by omega)
          omega)
        simp [this, e3]
      · simp [h1, e3]
    · simp [hbn]
/-- a row that the machine holds -/
def rw (f : Nat → Nat) : Int64 := lN (enc f 12)
def lt16 (f : Nat → Nat) : Prop := ∀ i, i < 12 → f i < 16
theorem enc_64 {f : Nat → Nat} (h : lt16 f) : enc f 12 < 2 ^ 48 := enc_lt h
theorem and15 (n : Nat) : nI n &&& 15 = nI (n % 16) := by
  rw [show (15 : Int32) = nI (2 ^ 4 - 1) from rfl]
  apply Int32.toBitVec_inj.mp
  apply BitVec.eq_of_toNat_eq
  show ((BitVec.ofNat 32 _) &&& (BitVec.ofNat 32 _)).toNat = (BitVec.ofNat 32 _).toNat
  rw [BitVec.toNat_and, BitVec.toNat_ofNat, BitVec.toNat_ofNat, BitVec.toNat_ofNat]
  rw [Nat.mod_eq_of_lt (show 2 ^ 4 - 1 < 2 ^ 32 by decide), Nat.and_two_pow_sub_one_eq_mod, Nat.mod_eq_of_lt (show n % 16 < 2 ^ 32 by omega)]
  rw [show (2 : Nat) ^ 32 = 16 * 2 ^ 28 from rfl, show (2 : Nat) ^ 4 = 16 from rfl, Nat.mod_mul_right_mod]
theorem rw_sh {f : Nat → Nat} (h : lt16 f) {i : Nat} (hi : i < 12) : ((rw f).toUInt64 >>> ((nI (4 * i)).toInt64.toUInt64 &&& Int64.toUInt64 63)).toInt64.toInt32 &&& 15 = nI (f i) := by
  have h1 := enc_64 h
  unfold rw
  rw [wb_shr (by omega) (by omega), lN_i, and15]
  exact congrArg nI (enc_nib h hi)
theorem rw_shL {f : Nat → Nat} (h : lt16 f) {i : Nat} (hi : i < 12) : ((rw f).toUInt64 >>> ((4 * nI i).toInt64.toUInt64 &&& Int64.toUInt64 63)).toInt64 &&& 15 = lN (f i) := by
  have h1 := enc_64 h
  rw [show (4 : Int32) = nI 4 from rfl, pk_mul]
  unfold rw
  rw [wb_shr (by omega) (by omega), show (15 : Int64) = lN (2 ^ 4 - 1) from rfl, wb_mask (Nat.lt_of_le_of_lt (Nat.div_le_self _ _) (by omega)) (by decide)]
  exact congrArg lN (enc_nib h hi)
theorem or_sh {a v i : Nat} (ha : a < 2 ^ 48) (hv : v < 16) (hi : i < 12) : lN a ||| (lN v <<< ((nI (4 * i)).toInt64 &&& 63)) = lN (a ||| v * 2 ^ (4 * i)) := by
  have h2 : v * 2 ^ (4 * i) < 2 ^ 64 := by
    have h3 : 2 ^ (4 * i) ≤ 2 ^ 44 := Nat.pow_le_pow_right (by decide) (by omega)
    have h4 : v * 2 ^ (4 * i) ≤ 15 * 2 ^ 44 := Nat.mul_le_mul (by omega) h3
    omega
  rw [wb_shl _ (by omega), wb_or (by omega) h2]
theorem enc_add {f : Nat → Nat} {n : Nat} (h : ∀ i, i < n + 1 → f i < 16) : enc f n ||| f n * 2 ^ (4 * n) = enc f (n + 1) := by
  have hl := enc_lt (f := f) (n := n) (fun i hi => h i (by omega))
  show _ = 2 ^ (4 * n) * f n + enc f n
  rw [Nat.or_comm, Nat.mul_comm, Nat.two_pow_add_eq_or_of_lt hl]
theorem nI_inc (n : Nat) : nI n + Int32.ofInt 1 = nI (n + 1) := nI_1 n
theorem nI_inc4 (n : Nat) : nI n + Int32.ofInt 4 = nI (n + 4) := nI_add n 4
theorem rw_at {f : Nat → Nat} (h : lt16 f) {i : Nat} (hi : i < 12) : ((rw f).toUInt64 >>> ((4 * nI i).toInt64.toUInt64 &&& Int64.toUInt64 63)).toInt64.toInt32 &&& 15 = nI (f i) := by
  rw [show (4 : Int32) = nI 4 from rfl, pk_mul]
  exact rw_sh h hi
theorem topI {V : Nat → List (Option AV) → List AV → Wd → Nat → Prop} {pc : Nat} {L : List (Option AV)} {S : List AV} {w : Wd} {c : Nat} {x y : Int32} (h : x = y) (k : V pc L (vI y :: S) w c) : V pc L (vI x :: S) w c := h ▸ k
theorem topJ {V : Nat → List (Option AV) → List AV → Wd → Nat → Prop} {pc : Nat} {L : List (Option AV)} {S : List AV} {w : Wd} {c : Nat} {x y : Int64} (h : x = y) (k : V pc L (vJ y :: S) w c) : V pc L (vJ x :: S) w c := h ▸ k
