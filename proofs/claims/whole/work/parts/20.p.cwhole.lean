/-! rest: class and model -/
theorem x_whole {i : Nat} (h : i < 2) {s : Bool} {m : Nat} (hm : m ≤ nInf i) {w : Int32} (hw : w = 0 ∨ w = 1 ∨ w = 2) :
    ((nBi i + nF i) * 2 ^ nF i ≤ m → fX0_wholeOf i (lN (kN i s m)) w = lN (kN i s m)) ∧
    (m < (nBi i + nF i) * 2 ^ nF i → ∃ r, r ≤ nInf i ∧ fX0_wholeOf i (lN (kN i s m)) w = lN (kN i s r) ∧ vU (nF i) r = (vU (nF i) m / uO i + (moreN s w (vU (nF i) m / uO i) (vU (nF i) m % uO i) (uO i)).toNat) * uO i) := by
  have hB := nB_facts h
  have hF := nF_facts h
  have hm2 : m < 2 ^ nB i := by omega
  have hp := Nat.two_pow_pos (nF i)
  have hel := exp_lt h hm2
  have z0 : (0 : Int64) = lN 0 := rfl
  have p0 : lN m = 0 ↔ m = 0 := by rw [z0]; exact jN_inj (by omega) (by decide)
  have hexp : ∀ K : Nat, 1 < K → (expN (nF i) m < K ↔ m < K * 2 ^ nF i) := by
    intro K hK
    unfold expN
    split
    · rename_i c
      have := Nat.mul_le_mul_right (2 ^ nF i) (show 1 ≤ K by omega)
      constructor <;> intro _ <;> omega
    · exact Nat.div_lt_iff_lt_mul hp
  unfold fX0_wholeOf
  rw [n_size h hm2, x_exp h hm2, kBias_n h, kFrac_n h]
  dsimp only
  have hsub := subI (a := expN (nF i) m) (b := nBi i) (by omega) (by omega)
  have q1 : nI (expN (nF i) m) - nI (nBi i) < nI (nF i) ↔ expN (nF i) m < nBi i + nF i := by
    rw [Int32.lt_iff_toInt_lt, hsub, nI_toInt (by omega)]; omega
  have q2 : 0 ≤ nI (expN (nF i) m) - nI (nBi i) ↔ nBi i ≤ expN (nF i) m := by
    rw [Int32.le_iff_toInt_le, hsub]
    have : (0 : Int32).toInt = 0 := rfl
    rw [this]; omega
  constructor
  · intro hge
    have hm0 : ¬ m = 0 := fun z => by
      have := Nat.mul_le_mul_right (2 ^ nF i) (show 1 ≤ nBi i + nF i by omega)
      omega
    rw [if_neg (fun z => hm0 (p0.mp z)), if_neg]
    intro z
    have := (hexp (nBi i + nF i) (by omega)).mp (q1.mp z)
    omega
  · intro hlt
    by_cases hm0 : m = 0
    · rw [if_pos (p0.mpr hm0)]
      refine ⟨0, Nat.zero_le _, by rw [hm0], ?_⟩
      rw [hm0, vU_zero, Nat.zero_div, Nat.zero_mod, moreN_gt (U := uO i) rfl (Nat.two_pow_pos _)]
      simp
    · rw [if_neg (fun z => hm0 (p0.mp z)), if_pos (q1.mpr ((hexp _ (by omega)).mpr hlt))]
      by_cases c : nBi i ≤ expN (nF i) m
      · rw [if_pos (q2.mpr c)]
        have e : nI (nF i) - (nI (expN (nF i) m) - nI (nBi i)) = nI (nF i + nBi i - expN (nF i) m) := by
          apply Int32.toInt_inj.mp
          have hlt2 := (hexp _ (by omega)).mpr hlt
          rw [nI_sub c, nI_sub (by omega)]
          congr 2
          omega
        rw [e]
        obtain ⟨r, h1, h2, h3⟩ := x_mixed h (s := s) c ((hexp _ (by omega)).mpr hlt) hw hm2
        rw [h2]
        exact ⟨r, h1, n_side h h (by omega) hm2, h3⟩
      · rw [if_neg (fun z => c (q2.mp z))]
        have hmb : m < nBi i * 2 ^ nF i := (hexp _ (by omega)).mp (by omega)
        obtain ⟨h1, h2⟩ := x_part h (s := s) (by omega) hmb hw
        rw [h1]
        have hone : nBi i * 2 ^ nF i ≤ nInf i := by rw [nInf_e h]; exact Nat.mul_le_mul_right _ (by omega)
        refine ⟨_, ?_, n_side h h ?_ hm2, ?_⟩
        · cases moreN s w (vU (nF i) m / uO i) (vU (nF i) m % uO i) (uO i)
          · simp
          · simpa using hone
        · cases moreN s w (vU (nF i) m / uO i) (vU (nF i) m % uO i) (uO i)
          · simp; exact Nat.two_pow_pos _
          · simp; omega
        · rw [h2, Nat.zero_add]
          cases moreN s w 0 (vU (nF i) m % uO i) (uO i)
          · simp [vU_zero]
          · simp only [Bool.toNat_true, Nat.one_mul]
            rw [vU_pow (nF i) (nBi i) (by omega)]
            unfold uO
            rw [← Nat.pow_add]
            congr 1; omega
theorem m_size {i : Nat} (h : i < 2) (v : Int64) : fX3_sizeOf (fI i) v = fX0_sizeOf i v := by
  unfold fX3_sizeOf fX0_sizeOf
  rcases i_cases h with rfl | rfl
  · rw [if_neg (by decide)]; rfl
  · rw [if_pos (by decide)]; rfl
theorem m_sided {i : Nat} (h : i < 2) (s : Bool) {m : Nat} (hm : m < 2 ^ nB i) : fX3_sided (fI i) (lN m) (if s then 1 else 0) = lN (kN i s m) := by
  unfold fX3_sided
  cases s
  · rw [if_pos (by decide)]; simp [kN]
  · rw [if_neg (by decide)]
    rcases i_cases h with rfl | rfl
    · rw [if_neg (by decide)]; exact n_or (i := 0) (by decide) hm
    · rw [if_pos (by decide)]
      have e : nB 1 = 31 := rfl
      rw [e] at hm
      apply Int64.toInt_inj.mp
      unfold kN
      rw [if_pos rfl, e, jN_neg (by omega) (by omega)]
      rw [Int64.toInt_sub, jN_toInt (by omega)]
      have : (2147483648 : Int64).toInt = 2147483648 := by decide
      rw [this, Int.bmod_def]
      omega
theorem kN_false (i m : Nat) : lN (kN i false m) = lN m := by simp [kN]
/-- a coarse size, made fine -/
theorem wide_val {m : Nat} (hm : m < nInf 1) : ∃ M, M < nInf 0 ∧ FP.f2d (UInt32.ofNat (cN 1 false m)) = UInt64.ofNat (cN 0 false M) ∧ vU 52 M = vU 23 m * 2 ^ 925 := by
  have hI : nInf 1 = 2139095040 := rfl
  have hm2 : m < 2 ^ nB 1 := by show m < 2 ^ 31; omega
  have hnn : FP.Core.fIsNaN (UInt32.ofNat (cN 1 false m)) = false := by
    unfold FP.Core.fIsNaN FP.Core.isNaN
    rw [u32_n (by omega)]
    exact decide_eq_false (dec_nn (i := 1) (by decide) false (Nat.le_of_lt hm))
  have hcl := sig_lt (F := 23) (m := m)
  have hel := exp_lt (i := 1) (by decide) hm2
  have he2 : expN 23 m ≤ 254 := by
    unfold expN
    split
    · omega
    · have : m / 2 ^ 23 < 255 := by rw [Nat.div_lt_iff_lt_mul (by decide)]; omega
      omega
  have em := (sig_e 23 m).2.1
  obtain ⟨M, h1, h2⟩ := ex_val (F := 52) (bi := 1023) (A := sigN 23 m) (k := expN 23 m - 1 + 925) (by omega) (by omega)
  have hM : M < nInf 0 := by rw [nInf_e (by decide)]; exact h1
  refine ⟨M, hM, ?_, ?_⟩
  · unfold FP.f2d
    rw [hnn, if_neg (by decide)]
    unfold FP.Core.f2d FP.Core.convert
    rw [u32_n (by omega)]
    congr 1
    have hd := dec_fin (i := 1) (by decide) false hm
    rw [show FP.Core.b32 = fmI 1 from rfl, hd]
    have eq : (fmI 1).qmin + ((expN (nF 1) m - 1 : Nat) : Int) = (fmI 0).qmin + ((expN 23 m - 1 + 925 : Nat) : Int) := by
      have a : (fmI 1).qmin = -149 := by decide
      have b : (fmI 0).qmin = -1074 := by decide
      have c : nF 1 = 23 := rfl
      rw [a, b, c]; omega
    rw [eq]
    exact enc_val (i := 0) (by decide) (Nat.le_of_lt hM) h2.symm
  · rw [h2, Nat.pow_add, ← Nat.mul_assoc]; rfl
/-- .. and back -/
theorem narrow_val {W r : Nat} (hW : W < nInf 0) (hr : r < nInf 1) (hv : vU 52 W = vU 23 r * 2 ^ 925) (hb : W = 0 ∨ 926 * 2 ^ 52 ≤ W) : FP.d2f (UInt64.ofNat (cN 0 false W)) = UInt32.ofNat (cN 1 false r) := by
  have hI0 : nInf 0 = 9218868437227405312 := rfl
  have hnn : FP.Core.dIsNaN (UInt64.ofNat (cN 0 false W)) = false := by
    unfold FP.Core.dIsNaN FP.Core.isNaN
    rw [u64_n (by omega)]
    exact decide_eq_false (dec_nn (i := 0) (by decide) false (Nat.le_of_lt hW))
  unfold FP.d2f
  rw [hnn, if_neg (by decide)]
  unfold FP.Core.d2f FP.Core.convert
  rw [u64_n (by omega)]
  congr 1
  have hd := dec_fin (i := 0) (by decide) false hW
  rw [show FP.Core.b64 = fmI 0 from rfl, hd]
  rcases hb with hb | hb
  · have hr0 : r = 0 := by
      rw [hb, vU_zero] at hv
      have : vU 23 r = 0 := by
        rcases Nat.mul_eq_zero.mp hv.symm with z | z
        · exact z
        · exact absurd z (Nat.ne_of_gt (Nat.two_pow_pos 925))
      exact vU_inj (F := 23) (by rw [this, vU_zero])
    rw [hb, hr0]
    exact enc_zero (i := 1) (by decide) false _
  · have he : 926 ≤ expN 52 W := by
      unfold expN
      rw [if_neg (by omega)]
      exact (Nat.le_div_iff_mul_le (by decide)).mpr hb
    have eq : (fmI 0).qmin + ((expN (nF 0) W - 1 : Nat) : Int) = (fmI 1).qmin + ((expN 52 W - 926 : Nat) : Int) := by
      have a : (fmI 1).qmin = -149 := by decide
      have b : (fmI 0).qmin = -1074 := by decide
      have c : nF 0 = 52 := rfl
      rw [a, b, c]
      clear hv
      omega
    rw [eq]
    refine enc_val (i := 1) (by decide) (Nat.le_of_lt hr) ?_
    show sigN 52 W * 2 ^ (expN 52 W - 926) = vU 23 r
    have hvW : vU 52 W = sigN 52 W * 2 ^ (expN 52 W - 1) := rfl
    rw [hvW] at hv
    have he3 : expN 52 W - 1 = expN 52 W - 926 + 925 := by clear hv hvW; omega
    rw [he3, Nat.pow_add, ← Nat.mul_assoc] at hv
    exact Nat.eq_of_mul_eq_mul_right (Nat.two_pow_pos 925) hv
