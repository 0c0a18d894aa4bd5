/-! longs as natural numbers: and, or, xor, shifts, order -/
theorem jN_toInt {n : Nat} (h : n < 2 ^ 63) : (lN n).toInt = (n : Int) := Int64.toInt_ofNat_of_lt h
theorem jN_and (a b : Nat) : lN a &&& lN b = lN (a &&& b) := by
  apply Int64.toBitVec_inj.1
  show BitVec.ofNat 64 a &&& BitVec.ofNat 64 b = BitVec.ofNat 64 (a &&& b)
  apply BitVec.eq_of_getLsbD_eq
  intro i hi
  simp [hi]
theorem jN_or (a b : Nat) : lN a ||| lN b = lN (a ||| b) := by
  apply Int64.toBitVec_inj.1
  show BitVec.ofNat 64 a ||| BitVec.ofNat 64 b = BitVec.ofNat 64 (a ||| b)
  apply BitVec.eq_of_getLsbD_eq
  intro i hi
  simp [hi]
theorem jN_xor (a b : Nat) : lN a ^^^ lN b = lN (a ^^^ b) := by
  apply Int64.toBitVec_inj.1
  show BitVec.ofNat 64 a ^^^ BitVec.ofNat 64 b = BitVec.ofNat 64 (a ^^^ b)
  apply BitVec.eq_of_getLsbD_eq
  intro i hi
  simp [hi]
theorem jN_add (a b : Nat) : lN a + lN b = lN (a + b) := (Int64.ofNat_add a b).symm
theorem jN_sub {a b : Nat} (h : b ≤ a) : lN a - lN b = lN (a - b) := (Int64.ofNat_sub a b h).symm
theorem jS : ∀ k, k < 64 → (((nI k).toInt64 &&& 63).toBitVec.smod 64).toNat = k := by decide +kernel
theorem jN_shl (n : Nat) {k : Nat} (hk : k < 64) : lN n <<< ((nI k).toInt64 &&& 63) = lN (n * 2 ^ k) := by
  apply Int64.toBitVec_inj.1
  rw [Int64.toBitVec_shiftLeft]
  show (BitVec.ofNat 64 n <<< (((nI k).toInt64 &&& 63).toBitVec.smod 64).toNat) = BitVec.ofNat 64 (n * 2 ^ k)
  rw [jS k hk]
  apply BitVec.eq_of_toNat_eq
  simp [BitVec.toNat_shiftLeft, Nat.shiftLeft_eq]
theorem jN_shr {n : Nat} (hn : n < 2 ^ 63) {k : Nat} (hk : k < 64) : lN n >>> ((nI k).toInt64 &&& 63) = lN (n / 2 ^ k) := by
  apply Int64.toBitVec_inj.1
  rw [Int64.toBitVec_shiftRight]
  show (BitVec.ofNat 64 n).sshiftRight (((nI k).toInt64 &&& 63).toBitVec.smod 64).toNat = BitVec.ofNat 64 (n / 2 ^ k)
  rw [jS k hk]
  apply BitVec.eq_of_toNat_eq
  have hm : (BitVec.ofNat 64 n).msb = false := by
    rw [BitVec.msb_eq_false_iff_two_mul_lt, BitVec.toNat_ofNat]
    omega
  have hd : n / 2 ^ k ≤ n := Nat.div_le_self _ _
  rw [BitVec.toNat_sshiftRight, hm, if_neg (by simp), BitVec.toNat_ofNat, BitVec.toNat_ofNat, Nat.shiftRight_eq_div_pow, Nat.mod_eq_of_lt (by omega), Nat.mod_eq_of_lt (by omega)]
theorem jN_lt {a b : Nat} (ha : a < 2 ^ 63) (hb : b < 2 ^ 63) : lN a < lN b ↔ a < b := by
  rw [Int64.lt_iff_toInt_lt, jN_toInt ha, jN_toInt hb]; omega
theorem jN_le {a b : Nat} (ha : a < 2 ^ 63) (hb : b < 2 ^ 63) : lN a ≤ lN b ↔ a ≤ b := by
  rw [Int64.le_iff_toInt_le, jN_toInt ha, jN_toInt hb]; omega
theorem jN_inj {a b : Nat} (ha : a < 2 ^ 64) (hb : b < 2 ^ 64) : lN a = lN b ↔ a = b := by
  constructor
  · intro h
    have h1 := congrArg (fun z : Int64 => z.toBitVec.toNat) h
    have h2 : (BitVec.ofNat 64 a).toNat = (BitVec.ofNat 64 b).toNat := h1
    rw [BitVec.toNat_ofNat, BitVec.toNat_ofNat, Nat.mod_eq_of_lt ha, Nat.mod_eq_of_lt hb] at h2
    exact h2
  · intro h; rw [h]
theorem jN_neg {n : Nat} (h0 : 2 ^ 63 ≤ n) (h : n < 2 ^ 64) : (lN n).toInt = (n : Int) - 2 ^ 64 := by
  show (Int64.ofNat n).toInt = _
  rw [Int64.toInt_ofNat', Int.bmod_def]
  simp only [Int64.size]
  omega
theorem jN_nn {n : Nat} (h : n < 2 ^ 64) : 0 ≤ lN n ↔ n < 2 ^ 63 := by
  rw [Int64.le_iff_toInt_le]
  have h0 : (0 : Int64).toInt = 0 := rfl
  rw [h0]
  rcases Nat.lt_or_ge n (2 ^ 63) with h1 | h1
  · rw [jN_toInt h1]; omega
  · rw [jN_neg h1 h]; omega
theorem jN_all (x : Int64) : ∃ n : Nat, n < 2 ^ 64 ∧ x = lN n := ⟨x.toBitVec.toNat, x.toBitVec.isLt, by
  apply Int64.toBitVec_inj.1
  show x.toBitVec = BitVec.ofNat 64 x.toBitVec.toNat
  rw [BitVec.ofNat_toNat]; simp⟩
theorem jN_u {n : Nat} : (lN n).toUInt64 = UInt64.ofNat n := Int64.toUInt64_ofNat'
theorem nx_low {B k m : Nat} (hm : m < 2 ^ B) : (2 ^ B * k + m) &&& (2 ^ B - 1) = m := by
  rw [Nat.and_two_pow_sub_one_eq_mod, Nat.mul_add_mod, Nat.mod_eq_of_lt hm]
theorem nx_flip {B k m : Nat} (hm : m < 2 ^ B) : (2 ^ B * k + m) ^^^ (2 ^ B - 1) = 2 ^ B * k + (2 ^ B - (m + 1)) := by
  apply Nat.eq_of_testBit_eq
  intro j
  have h1 : 2 ^ B - (m + 1) < 2 ^ B := by have := Nat.two_pow_pos B; omega
  rw [Nat.testBit_xor, Nat.testBit_two_pow_mul_add k hm j, Nat.testBit_two_pow_mul_add k h1 j, Nat.testBit_two_pow_sub_succ hm, Nat.testBit_two_pow_sub_one]
  by_cases h : j < B
  · simp [h]
  · simp [h]
