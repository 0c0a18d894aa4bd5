/-! the model's sum, by the core -/
theorem cN_lt {i : Nat} (h : i < 2) {s : Bool} {m : Nat} (hm : m < 2 ^ nB i) : cN i s m < 2 * 2 ^ nB i := by
  unfold cN; cases s <;> simp <;> omega
theorem cN_low {i : Nat} (s : Bool) {m : Nat} (hm : m < 2 ^ nB i) : cN i s m % 2 ^ nB i = m := by
  unfold cN; rw [Nat.mul_comm, Nat.mul_add_mod, Nat.mod_eq_of_lt hm]
theorem kN0 (s : Bool) (m : Nat) : kN 0 s m = cN 0 s m := by unfold kN cN; cases s <;> rfl
theorem u64_of (s : Bool) (m : Nat) : (lN (kN 0 s m)).toUInt64 = UInt64.ofNat (cN 0 s m) := by rw [kN0]; exact jN_u
theorem u64_n {s : Bool} {m : Nat} (hm : m < 2 ^ 63) : (UInt64.ofNat (cN 0 s m)).toNat = cN 0 s m := by
  rw [UInt64.toNat_ofNat']
  exact Nat.mod_eq_of_lt (by have := cN_lt (i := 0) (by decide) (s := s) (m := m) hm; exact this)
theorem u64_back (s : Bool) (m : Nat) : (UInt64.ofNat (cN 0 s m)).toInt64 = lN (kN 0 s m) := by rw [kN0]; rfl
theorem u64_mask {s : Bool} {m : Nat} (hm : m < 2 ^ 63) : (UInt64.ofNat (cN 0 s m) &&& 0x7fffffffffffffff).toNat = m := by
  rw [UInt64.toNat_and, u64_n hm]
  have : (0x7fffffffffffffff : UInt64).toNat = 2 ^ 63 - 1 := by decide
  rw [this, Nat.and_two_pow_sub_one_eq_mod]
  exact cN_low (i := 0) s hm
theorem u64_num {s : Bool} {m : Nat} (hm : m ≤ nInf 0) : UInt64.ofNat (cN 0 s m) &&& 0x7fffffffffffffff ≤ 0x7ff0000000000000 := by
  have hI : nInf 0 = 9218868437227405312 := rfl
  rw [UInt64.le_iff_toNat_le, u64_mask (by omega)]
  have : (0x7ff0000000000000 : UInt64).toNat = 9218868437227405312 := by decide
  omega
theorem kN1_low (s : Bool) {m : Nat} (hm : m < 2 ^ 31) : kN 1 s m % 2 ^ 32 = cN 1 s m := by
  unfold kN cN
  have e : nB 1 = 31 := rfl
  rw [e]
  cases s
  · simp; omega
  · simp; omega
theorem u32_of {s : Bool} {m : Nat} (hm : m < 2 ^ 31) : (lN (kN 1 s m)).toInt32.toUInt32 = UInt32.ofNat (cN 1 s m) := by
  rw [jN_i32]
  apply UInt32.toBitVec_inj.1
  show BitVec.ofNat 32 (kN 1 s m) = BitVec.ofNat 32 (cN 1 s m)
  apply BitVec.eq_of_toNat_eq
  rw [BitVec.toNat_ofNat, BitVec.toNat_ofNat, kN1_low s hm, Nat.mod_eq_of_lt]
  have := cN_lt (i := 1) (by decide) (s := s) (m := m) hm
  exact this
theorem u32_n {s : Bool} {m : Nat} (hm : m < 2 ^ 31) : (UInt32.ofNat (cN 1 s m)).toNat = cN 1 s m := by
  rw [UInt32.toNat_ofNat']
  exact Nat.mod_eq_of_lt (by have := cN_lt (i := 1) (by decide) (s := s) (m := m) hm; exact this)
theorem u32_mask {s : Bool} {m : Nat} (hm : m < 2 ^ 31) : (UInt32.ofNat (cN 1 s m) &&& 0x7fffffff).toNat = m := by
  rw [UInt32.toNat_and, u32_n hm]
  have : (0x7fffffff : UInt32).toNat = 2 ^ 31 - 1 := by decide
  rw [this, Nat.and_two_pow_sub_one_eq_mod]
  exact cN_low (i := 1) s hm
theorem u32_num {s : Bool} {m : Nat} (hm : m ≤ nInf 1) : UInt32.ofNat (cN 1 s m) &&& 0x7fffffff ≤ 0x7f800000 := by
  have hI : nInf 1 = 2139095040 := rfl
  rw [UInt32.le_iff_toNat_le, u32_mask (by omega)]
  have : (0x7f800000 : UInt32).toNat = 2139095040 := by decide
  omega
theorem u32_back {s : Bool} {m : Nat} (hm : m < 2 ^ 31) : (UInt32.ofNat (cN 1 s m)).toInt32.toInt64 = lN (kN 1 s m) := by
  have e : (UInt32.ofNat (cN 1 s m)).toInt32 = nI (cN 1 s m) := rfl
  rw [e]
  apply Int64.toInt_inj.mp
  rw [Int32.toInt_toInt64]
  have e2 : nB 1 = 31 := rfl
  have hc : cN 1 s m = s.toNat * 2 ^ 31 + m := by unfold cN; rw [e2]
  rw [hc]
  unfold kN
  rw [e2]
  cases s
  · rw [show false.toNat * 2 ^ 31 + m = m by simp, nI_toInt hm, show (if false = true then 2 ^ 64 - 2 ^ 31 else 0) + m = m by simp, jN_toInt (by omega)]
  · rw [show true.toNat * 2 ^ 31 + m = 2 ^ 31 + m by simp, show (if true = true then 2 ^ 64 - 2 ^ 31 else 0) + m = 2 ^ 64 - 2 ^ 31 + m by simp, jN_neg (by omega) (by omega)]
    show (Int32.ofNat (2 ^ 31 + m)).toInt = _
    rw [Int32.toInt_ofNat', Int.bmod_def]
    simp only [Int32.size]
    omega
theorem dec_nn {i : Nat} (h : i < 2) (s : Bool) {m : Nat} (hm : m ≤ nInf i) : FP.Core.decode (fmI i) (cN i s m) ≠ .nan := by
  by_cases hi : m = nInf i
  · rw [hi, dec_inf h s]; intro z; cases z
  · rw [dec_fin h s (by omega)]; intro z; cases z
theorem ord_self {x : FP.Core.Datum} (h : x ≠ .nan) : FP.Core.order x x = some .eq := by
  have cmp : ∀ a : Int, compare a a = Ordering.eq := fun a => by rw [Int.compare_eq_eq]
  cases x
  · exact absurd rfl h
  · simp [FP.Core.order, cmp]
  · simp [FP.Core.order, cmp]
theorem d2b {s : Bool} {m : Nat} (hm : m ≤ nInf 0) : fJxe99ae_doubleToLongBits_ccdee (UInt64.ofNat (cN 0 s m)) = lN (kN 0 s m) := by
  have hI : nInf 0 = 9218868437227405312 := rfl
  have hz : fJxe99ae_isNaN_b9ae7 (UInt64.ofNat (cN 0 s m)) = 0 := by
    unfold fJxe99ae_isNaN_b9ae7
    have : FP.dcmp (UInt64.ofNat (cN 0 s m)) (UInt64.ofNat (cN 0 s m)) = some .eq := by
      show FP.Core.order (FP.Core.decode FP.Core.b64 _) (FP.Core.decode FP.Core.b64 _) = _
      rw [u64_n (by omega)]
      exact ord_self (dec_nn (i := 0) (by decide) s hm)
    rw [this]; rfl
  unfold fJxe99ae_doubleToLongBits_ccdee
  rw [if_pos hz, u64_back]
theorem f2b {s : Bool} {m : Nat} (hm : m ≤ nInf 1) : (fJxf58ca_floatToIntBits_5c35a (UInt32.ofNat (cN 1 s m))).toInt64 = lN (kN 1 s m) := by
  have hI : nInf 1 = 2139095040 := rfl
  have hz : fJxf58ca_isNaN_12338 (UInt32.ofNat (cN 1 s m)) = 0 := by
    unfold fJxf58ca_isNaN_12338
    have : FP.fcmp (UInt32.ofNat (cN 1 s m)) (UInt32.ofNat (cN 1 s m)) = some .eq := by
      show FP.Core.order (FP.Core.decode FP.Core.b32 _) (FP.Core.decode FP.Core.b32 _) = _
      rw [u32_n (by omega)]
      exact ord_self (dec_nn (i := 1) (by decide) s hm)
    rw [this]; rfl
  unfold fJxf58ca_floatToIntBits_5c35a
  rw [if_pos hz, u32_back (by omega)]
/-- the sums of class and model are one -/
theorem sum_eq {i : Nat} (h : i < 2) {s t : Bool} {m n : Nat} (hm : m ≤ nInf i) (hn : n ≤ nInf i) (hop : ¬ (m = nInf i ∧ n = nInf i ∧ ¬ s = t)) :
    ∃ s' m', m' ≤ nInf i ∧ fX0_sum i (lN (kN i s m)) (lN (kN i t n)) = lN (kN i s' m') ∧ fX3_sum (fI i) (lN (kN i s m)) (lN (kN i t n)) = lN (kN i s' m') ∧ SumOK (fI i) (lN (kN i s m)) (lN (kN i t n)) := by
  obtain ⟨s', m', hm', e1, e2⟩ := x_sum h hm hn hop
  refine ⟨s', m', hm', e1, ?_, ?_⟩
  · unfold fX3_sum
    rcases i_cases h with rfl | rfl
    · have hI : nInf 0 = 9218868437227405312 := rfl
      rw [if_neg (by decide), u64_of, u64_of]
      have : FP.dadd (UInt64.ofNat (cN 0 s m)) (UInt64.ofNat (cN 0 t n)) = UInt64.ofNat (cN 0 s' m') := by
        show UInt64.ofNat (FP.Core.add FP.Core.b64 _ _) = _
        rw [u64_n (by omega), u64_n (by omega)]
        exact congrArg UInt64.ofNat e2
      rw [this]
      exact d2b hm'
    · have hI : nInf 1 = 2139095040 := rfl
      rw [if_pos (by decide), u32_of (by omega), u32_of (by omega)]
      have : FP.fadd (UInt32.ofNat (cN 1 s m)) (UInt32.ofNat (cN 1 t n)) = UInt32.ofNat (cN 1 s' m') := by
        show UInt32.ofNat (FP.Core.add FP.Core.b32 _ _) = _
        rw [u32_n (by omega), u32_n (by omega)]
        exact congrArg UInt32.ofNat e2
      rw [this]
      exact f2b hm'
  · unfold SumOK
    rcases i_cases h with rfl | rfl
    · have hI : nInf 0 = 9218868437227405312 := rfl
      refine ⟨fun _ => ?_, fun z => absurd z (by decide)⟩
      have hs : ∀ (s : Bool) (m : Nat), m ≤ nInf 0 → vn_snl2d (lN (kN 0 s m)) = false := by
        intro s m hm
        unfold vn_snl2d
        rw [u64_of]
        have := u64_num (s := s) hm
        rw [decide_eq_false (by simpa using this), Bool.false_and]
      refine ⟨hs s m hm, hs t n hn, ?_⟩
      rw [u64_of, u64_of]
      have : FP.dadd (UInt64.ofNat (cN 0 s m)) (UInt64.ofNat (cN 0 t n)) = UInt64.ofNat (cN 0 s' m') := by
        show UInt64.ofNat (FP.Core.add FP.Core.b64 _ _) = _
        rw [u64_n (by omega), u64_n (by omega)]
        exact congrArg UInt64.ofNat e2
      rw [this]
      exact u64_num hm'
    · have hI : nInf 1 = 2139095040 := rfl
      refine ⟨fun z => absurd rfl z, fun _ => ?_⟩
      have hs : ∀ (s : Bool) (m : Nat), m ≤ nInf 1 → vn_sni2f (lN (kN 1 s m)).toInt32 = false := by
        intro s m hm
        unfold vn_sni2f
        rw [u32_of (by omega)]
        have := u32_num (s := s) hm
        rw [decide_eq_false (by simpa using this), Bool.false_and]
      refine ⟨hs s m hm, hs t n hn, ?_⟩
      rw [u32_of (by omega), u32_of (by omega)]
      have : FP.fadd (UInt32.ofNat (cN 1 s m)) (UInt32.ofNat (cN 1 t n)) = UInt32.ofNat (cN 1 s' m') := by
        show UInt32.ofNat (FP.Core.add FP.Core.b32 _ _) = _
        rw [u32_n (by omega), u32_n (by omega)]
        exact congrArg UInt32.ofNat e2
      rw [this]
      exact u32_num hm'
