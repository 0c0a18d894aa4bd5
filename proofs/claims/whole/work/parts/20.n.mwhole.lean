/-! the model's whole number of a double -/
def moreN (neg : Bool) (w : Int32) (Q R U : Nat) : Bool :=
  if w = 0 then neg && decide (¬ R = 0) else if w = 1 then !neg && decide (¬ R = 0) else decide (U < 2 * R) || (decide (2 * R = U) && decide (Q % 2 = 1))
theorem cmp_nat (a b : Nat) : compare (a : Int) (b : Int) = if a < b then .lt else if a = b then .eq else .gt := by
  show (if (a : Int) < b then _ else if (a : Int) = b then _ else _) = _
  simp only [Int.ofNat_lt, Int.ofNat_inj]
theorem dcmp_val {m n : Nat} (hm : m < nInf 0) (hn : n < nInf 0) : FP.dcmp (UInt64.ofNat (cN 0 false m)) (UInt64.ofNat (cN 0 false n)) = some (if vU 52 m < vU 52 n then .lt else if vU 52 m = vU 52 n then .eq else .gt) := by
  have hI0 : nInf 0 = 9218868437227405312 := rfl
  show FP.Core.order (FP.Core.decode FP.Core.b64 _) (FP.Core.decode FP.Core.b64 _) = _
  rw [u64_n (by omega), u64_n (by omega)]
  have := ord_val (i := 0) (by decide) hm hn
  rw [show FP.Core.b64 = fmI 0 from rfl, this, cmp_nat]
  rfl
theorem cv_lt : Op.cmpValue (some .lt) .l = -1 := rfl
theorem cv_eq : Op.cmpValue (some .eq) .l = 0 := rfl
theorem cv_gt : Op.cmpValue (some .gt) .l = 1 := rfl
theorem k_52 : (4841369599423283200 : UInt64) = UInt64.ofNat (cN 0 false (1075 * 2 ^ 52)) := by decide +kernel
theorem k_half : (4602678819172646912 : UInt64) = UInt64.ofNat (cN 0 false (1022 * 2 ^ 52)) := by decide +kernel
theorem k_one : FP.dconst1 = UInt64.ofNat (cN 0 false (1023 * 2 ^ 52)) := by decide +kernel
theorem k_zero : FP.dconst0 = UInt64.ofNat (cN 0 false 0) := by decide +kernel
theorem vU_pow (F E : Nat) (hE : 1 ≤ E) : vU F (E * 2 ^ F) = 2 ^ F * 2 ^ (E - 1) := by
  have := vU_make (F := F) (q := E - 1) (C := 2 ^ F) (Or.inr (Nat.le_refl _)) (by omega)
  rw [← this]
  congr 1
  have := Nat.add_mul (E - 1) 1 (2 ^ F)
  rw [Nat.one_mul, show E - 1 + 1 = E by omega] at this
  omega
theorem wh_lt {M : Nat} (hM : M ≤ nInf 0) : Op.cmpValue (FP.dcmp (UInt64.ofNat (cN 0 false M)) 4841369599423283200) .l < 0 ↔ M < 1075 * 2 ^ 52 := by
  have hI0 : nInf 0 = 9218868437227405312 := rfl
  rw [k_52]
  rcases Nat.eq_or_lt_of_le hM with h | h
  · have : FP.dcmp (UInt64.ofNat (cN 0 false M)) (UInt64.ofNat (cN 0 false (1075 * 2 ^ 52))) = some .gt := by
      show FP.Core.order (FP.Core.decode FP.Core.b64 _) (FP.Core.decode FP.Core.b64 _) = _
      rw [u64_n (by omega), u64_n (by decide), h, show FP.Core.b64 = fmI 0 from rfl, dec_inf (by decide) false, dec_fin (by decide) false (show 1075 * 2 ^ 52 < nInf 0 by decide)]
      rfl
    rw [this, cv_gt]
    constructor
    · intro z; exact absurd z (by decide)
    · intro z; omega
  · rw [dcmp_val h (by decide)]
    have := vU_iff (F := 52) (m := M) (n := 1075 * 2 ^ 52)
    by_cases c : M < 1075 * 2 ^ 52
    · rw [if_pos (this.mpr c), cv_lt]
      exact ⟨fun _ => c, fun _ => by decide⟩
    · rw [if_neg (fun z => c (this.mp z))]
      refine ⟨fun z => ?_, fun z => absurd z c⟩
      exfalso
      split at z
      · exact absurd z (by decide)
      · exact absurd z (by decide)
theorem wh_spec {M : Nat} (hM : M < 1075 * 2 ^ 52) :
    ∃ Y O Z : Nat, Y < nInf 0 ∧ O < nInf 0 ∧ Z < nInf 0 ∧ vU 52 Y = vU 52 M / 2 ^ 1074 * 2 ^ 1074 ∧ vU 52 O = vU 52 M % 2 ^ 1074 ∧ vU 52 Z = (vU 52 M / 2 ^ 1074 + 1) * 2 ^ 1074 ∧
      FP.d2l (UInt64.ofNat (cN 0 false M)) = lN (vU 52 M / 2 ^ 1074) ∧ FP.l2d (FP.d2l (UInt64.ofNat (cN 0 false M))) = UInt64.ofNat (cN 0 false Y) ∧ FP.dsub (UInt64.ofNat (cN 0 false M)) (UInt64.ofNat (cN 0 false Y)) = UInt64.ofNat (cN 0 false O) ∧ FP.dadd (UInt64.ofNat (cN 0 false Y)) FP.dconst1 = UInt64.ofNat (cN 0 false Z) := by
  have hI0 : nInf 0 = 9218868437227405312 := rfl
  have hMi : M < nInf 0 := by omega
  obtain ⟨h1, h2, O, h3, h4⟩ := d2l_val hM
  obtain ⟨Y, h5, h6⟩ := u_int (Q := vU 52 M / 2 ^ 1074) (Nat.lt_trans h2 (by decide))
  obtain ⟨Z, h7, h8⟩ := u_int (Q := vU 52 M / 2 ^ 1074 + 1) (Nat.lt_of_lt_of_le (Nat.succ_lt_succ h2) (by decide))
  refine ⟨Y, O, Z, h5, h3, h7, h6, h4, h8, h1, ?_, ?_, ?_⟩
  · rw [h1]; exact l2d_val (Nat.lt_trans h2 (by decide)) h5 h6
  · show UInt64.ofNat (FP.Core.sub FP.Core.b64 _ _) = _
    rw [u64_n (by omega), u64_n (by omega)]
    congr 1
    refine sub_val (i := 0) (by decide) hMi h5 (Nat.le_of_lt h3) ?_
    show vU 52 M = vU 52 Y + vU 52 O
    rw [h6, h4, Nat.mul_comm]
    exact (Nat.div_add_mod _ _).symm
  · rw [k_one]
    show UInt64.ofNat (FP.Core.add FP.Core.b64 _ _) = _
    rw [u64_n (by omega), u64_n (by decide)]
    congr 1
    refine add_val (i := 0) (by decide) h5 (by decide) (Nat.le_of_lt h7) ?_
    show vU 52 Y + vU 52 (1023 * 2 ^ 52) = vU 52 Z
    rw [h6, h8, Nat.add_mul, Nat.one_mul, vU_pow 52 1023 (by decide), ← Nat.pow_add]
theorem wh_ok {M : Nat} (hM : M ≤ nInf 0) : WhOK (UInt64.ofNat (cN 0 false M)) := by
  intro h
  obtain ⟨Y, O, Z, a1, a2, a3, a4, a5, a6, b1, b2, b3, b4⟩ := wh_spec ((wh_lt hM).mp h)
  rw [b2, b3, b4]
  exact ⟨u64_num (Nat.le_of_lt a2), u64_num (Nat.le_of_lt a3)⟩
theorem ch_half {O : Nat} (a2 : O < nInf 0) : Op.cmpValue (FP.dcmp (UInt64.ofNat (cN 0 false O)) 4602678819172646912) .l = if 2 * vU 52 O < 2 ^ 1074 then -1 else if 2 * vU 52 O = 2 ^ 1074 then 0 else 1 := by
  have e : vU 52 (1022 * 2 ^ 52) = 2 ^ 1073 := by rw [vU_pow 52 1022 (by decide)]; decide +kernel
  have e2 : (2 : Nat) ^ 1074 = 2 * 2 ^ 1073 := by decide +kernel
  rw [k_half, dcmp_val a2 (by decide), e, e2]
  generalize (2 : Nat) ^ 1073 = H
  generalize vU 52 O = R
  clear e e2 a2
  by_cases c1 : R < H
  · rw [if_pos c1, if_pos (show 2 * R < 2 * H by omega)]; rfl
  · rw [if_neg c1, if_neg (show ¬ 2 * R < 2 * H by omega)]
    by_cases c2 : R = H
    · rw [if_pos c2, if_pos (show 2 * R = 2 * H by omega)]; rfl
    · rw [if_neg c2, if_neg (show ¬ 2 * R = 2 * H by omega)]; rfl
theorem wh_val {M : Nat} (hM : M < 1075 * 2 ^ 52) (neg : Bool) {w : Int32} (hw : w = 0 ∨ w = 1 ∨ w = 2) :
    ∃ W, W < nInf 0 ∧ fX3_whole (UInt64.ofNat (cN 0 false M)) (if neg then 1 else 0) w = UInt64.ofNat (cN 0 false W) ∧ vU 52 W = (vU 52 M / 2 ^ 1074 + (moreN neg w (vU 52 M / 2 ^ 1074) (vU 52 M % 2 ^ 1074) (2 ^ 1074)).toNat) * 2 ^ 1074 := by
  have hI0 : nInf 0 = 9218868437227405312 := rfl
  obtain ⟨Y, O, Z, a1, a2, a3, a4, a5, a6, b1, b2, b3, b4⟩ := wh_spec hM
  unfold fX3_whole
  rw [if_pos ((wh_lt (by omega)).mpr hM), b2, b3, b4, b1]
  have cz : Op.cmpValue (FP.dcmp (UInt64.ofNat (cN 0 false O)) FP.dconst0) .l = if vU 52 O = 0 then 0 else 1 := by
    rw [k_zero, dcmp_val a2 (by decide), vU_zero, if_neg (by omega)]
    split <;> rfl
  have ch := ch_half a2
  rw [cz, ch, ← a5]
  have hodd : (lN (vU 52 M / 2 ^ 1074) &&& (1 : Int64)) = (1 : Int64) ↔ vU 52 M / 2 ^ 1074 % 2 = 1 := by
    have h1 : (1 : Int64) = lN (2 ^ 1 - 1) := rfl
    rw [h1, jN_and, Nat.and_two_pow_sub_one_eq_mod, Nat.pow_one]
    exact jN_inj (Nat.lt_trans (Nat.mod_lt _ (by decide)) (by decide)) (by decide)
  generalize vU 52 M / 2 ^ 1074 = Q at *
  generalize vU 52 O = R at *
  generalize (2 : Nat) ^ 1074 = U at *
  have fin0 : ∀ e : Nat, e = 0 → ∃ W, W < nInf 0 ∧ UInt64.ofNat (cN 0 false Y) = UInt64.ofNat (cN 0 false W) ∧ vU 52 W = (Q + e) * U := fun e he => ⟨Y, a1, rfl, by rw [a4, he, Nat.add_zero]⟩
  have fin1 : ∀ e : Nat, e = 1 → ∃ W, W < nInf 0 ∧ UInt64.ofNat (cN 0 false Z) = UInt64.ofNat (cN 0 false W) ∧ vU 52 W = (Q + e) * U := fun e he => ⟨Z, a3, rfl, by rw [a6, he]⟩
  have hb0 : (if false = true then (1 : Int32) else 0) = 0 := rfl
  have hb1 : (if true = true then (1 : Int32) else 0) = 1 := rfl
  have t0 : (0 : Int32) = 0 := rfl
  have t1 : ¬ (1 : Int32) = 0 := by decide
  have t2 : ¬ (2 : Int32) = 0 := by decide
  have t3 : ¬ (2 : Int32) = 1 := by decide
  have t4 : (1 : Int32) = 1 := rfl
  have l0 : (0 : Int32) ≤ 0 := by decide
  have l1 : ¬ (1 : Int32) ≤ 0 := by decide
  have g0 : ¬ (0 : Int32) < 0 := by decide
  have g1 : (0 : Int32) < 1 := by decide
  have gm : ¬ (0 : Int32) < -1 := by decide
  have em : ¬ (-1 : Int32) = 0 := by decide
  rcases hw with rfl | rfl | rfl
  · cases neg
    · rw [hb0, if_pos t0, if_pos t0]; exact fin0 _ (by simp [moreN])
    · rw [hb1, if_pos t0, if_neg t1]
      by_cases c : R = 0
      · rw [if_pos c, if_pos l0]; exact fin0 _ (by simp [moreN, c])
      · rw [if_neg c, if_neg l1]; exact fin1 _ (by simp [moreN, c])
  · cases neg
    · rw [hb0, if_neg t1, if_pos t4, if_pos t0]
      by_cases c : R = 0
      · rw [if_pos c, if_pos l0]; exact fin0 _ (by simp [moreN, c])
      · rw [if_neg c, if_neg l1]; exact fin1 _ (by simp [moreN, c])
    · rw [hb1, if_neg t1, if_pos t4, if_neg t1]; exact fin0 _ (by simp [moreN])
  · have hm : moreN neg 2 Q R U = (decide (U < 2 * R) || (decide (2 * R = U) && decide (Q % 2 = 1))) := by unfold moreN; rw [if_neg t2, if_neg t3]
    rw [hm, if_neg t2, if_neg t3]
    by_cases c1 : 2 * R < U
    · rw [if_pos c1, if_neg gm, if_neg em]
      exact fin0 _ (by rw [decide_eq_false (show ¬ U < 2 * R by omega), decide_eq_false (show ¬ 2 * R = U by omega)]; rfl)
    · rw [if_neg c1]
      by_cases c2 : 2 * R = U
      · rw [if_pos c2, if_neg g0, if_pos t0]
        by_cases c3 : Q % 2 = 1
        · rw [if_pos (hodd.mpr c3)]
          exact fin1 _ (by rw [decide_eq_true c2, decide_eq_true c3]; simp)
        · rw [if_neg (fun z => c3 (hodd.mp z))]
          exact fin0 _ (by rw [decide_eq_false (show ¬ U < 2 * R by omega), decide_eq_false c3]; simp)
      · rw [if_neg c2, if_pos g1]
        exact fin1 _ (by rw [decide_eq_true (show U < 2 * R by omega)]; simp)
