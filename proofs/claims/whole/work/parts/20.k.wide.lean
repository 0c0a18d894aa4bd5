/-! a coarse number made fine -/
theorem nr_shift (A j k q : Nat) : FP.Core.nearest (A * 2 ^ j * 2 ^ (k - q)) (2 ^ (q - k)) = FP.Core.nearest (A * 2 ^ (k + j - q)) (2 ^ (q - (k + j))) := by
  rcases Nat.lt_or_ge k q with h | h
  · rcases Nat.lt_or_ge (k + j) q with h2 | h2
    · rw [show k - q = 0 by omega, show k + j - q = 0 by omega, Nat.pow_zero, Nat.mul_one, Nat.mul_one]
      have := nr_scale A (2 ^ (q - (k + j))) (2 ^ j) (Nat.two_pow_pos j)
      rw [← this, ← Nat.pow_add]
      congr 2
      omega
    · rw [show k - q = 0 by omega, show q - (k + j) = 0 by omega, Nat.pow_zero, Nat.mul_one]
      have := nr_scale (A * 2 ^ (k + j - q)) 1 (2 ^ (q - k)) (Nat.two_pow_pos _)
      rw [← this, Nat.one_mul, Nat.mul_assoc, ← Nat.pow_add]
      congr 3
      omega
  · rw [show q - k = 0 by omega, show q - (k + j) = 0 by omega, Nat.mul_assoc, ← Nat.pow_add]
    congr 3
    omega
theorem sig_pos {F m : Nat} (h : 0 < m) : 0 < sigN F m := by
  have := Nat.two_pow_pos F
  unfold sigN; split <;> omega
theorem wide_nat {F bi c e j S : Nat} (hF : F ≤ 52) (hb : 1 ≤ bi) (hA : 0 < c) (hS : S = 8 * (c * 2 ^ j)) (hS32 : S < 32 * 2 ^ F) :
    fromN F bi S (e + 1) = min ((2 * bi + 1) * 2 ^ F) ((c.log2 + (e + j) - F) * 2 ^ F + FP.Core.nearest (c * 2 ^ (e + j - (c.log2 + (e + j) - F))) (2 ^ (c.log2 + (e + j) - F - (e + j)))) := by
  have hp := Nat.two_pow_pos j
  have hA2 : 0 < c * 2 ^ j := Nat.mul_pos hA hp
  have sp := fromN_spec (F := F) (bi := bi) (A := c * 2 ^ j) (k := e) (D := 0) (S := S) (e := e + 1) hF hb hA2 (by omega) (Or.inl (by rw [Nat.pow_zero]; omega)) hS32 (Or.inl (by rw [Nat.pow_zero]; omega))
  rw [lg_mul c j hA, nr_shift c j] at sp
  rw [sp, show c.log2 + j + e = c.log2 + (e + j) by omega]
theorem x_wide {s : Bool} {m : Nat} (hm : m ≤ nInf 1) :
    ∃ m', m' ≤ nInf 0 ∧ fX0_fineFromCoarse (lN (kN 1 s m)) = lN (kN 0 s m') ∧ FP.Core.convert FP.Core.b32 FP.Core.b64 (cN 1 s m) = cN 0 s m' := by
  have h1 : (1 : Nat) < 2 := by decide
  have h0 : (0 : Nat) < 2 := by decide
  have hI : nInf 1 = 2139095040 := rfl
  have hI0 : nInf 0 = 9218868437227405312 := rfl
  have hB : nB 1 = 31 := rfl
  have hB0 : nB 0 = 63 := rfl
  have hm2 : m < 2 ^ nB 1 := by rw [hB]; omega
  have z : (0 : Int64) = lN 0 := rfl
  unfold fX0_fineFromCoarse FP.Core.convert
  rw [n_size h1 hm2, kInf_n h1]
  by_cases c0 : m = 0
  · rw [if_pos (by rw [c0]; rfl), z, n_side h0 h1 (by decide) hm2]
    refine ⟨0, by omega, rfl, ?_⟩
    have := dec_fin h1 s (m := m) (by omega)
    rw [show FP.Core.b32 = fmI 1 from rfl, this, c0]
    exact enc_zero h0 s _
  · rw [if_neg (by rw [z, jN_inj (by omega) (by decide)]; exact c0)]
    by_cases c1 : m = nInf 1
    · rw [if_pos (by rw [c1]), kInf_n h0, n_side h0 h1 (by decide) hm2]
      refine ⟨nInf 0, Nat.le_refl _, rfl, ?_⟩
      rw [c1, show FP.Core.b32 = fmI 1 from rfl, dec_inf h1 s]
      exact enc_inf h0 s
    · rw [if_neg (by rw [jN_inj (by omega) (by omega)]; exact c1)]
      have hd := dec_fin h1 s (m := m) (by omega)
      have hel := exp_lt h1 hm2
      have em := (sig_e (nF 1) m).2.1
      have hcl := sig_lt (F := nF 1) (m := m)
      have hF1 : nF 1 = 23 := rfl
      have hA : 0 < sigN (nF 1) m := sig_pos (by omega)
      have e1 : fX0_exponentOf 1 (lN m) - kBias 1 + kBias 0 = nI (expN (nF 1) m + 896) := by
        rw [x_exp h1 hm2, Int32.sub_eq_add_neg, Int32.add_assoc, show -kBias 1 + kBias 0 = nI 896 by decide, nI_add]
      have e2 : fX0_significandOf 1 (lN m) <<< (((kFrac 0 - kFrac 1) + (3 : Int32)).toInt64 &&& 63) = lN (sigN (nF 1) m * 2 ^ 32) := by
        rw [x_sig h1 hm2, show (kFrac 0 - kFrac 1) + (3 : Int32) = nI 32 by decide, jN_shl _ (by decide)]
      obtain ⟨S, hS⟩ : ∃ S, S = sigN (nF 1) m * 2 ^ 32 := ⟨_, rfl⟩
      rw [← hS] at e2
      rw [e1, e2]
      dsimp only
      generalize hc : sigN (nF 1) m = c at *
      have hc24 : c < 2 ^ 24 := by rw [hF1] at hcl; omega
      have hS57 : S < 2 ^ 57 := by omega
      rw [x_from h0 hS57 (by omega) (by omega)]
      obtain ⟨e, he⟩ : ∃ e, e = expN (nF 1) m + 895 := ⟨_, rfl⟩
      rw [show expN (nF 1) m + 896 = e + 1 by omega]
      have sp := wide_nat (F := nF 0) (bi := nBi 0) (c := c) (e := e) (j := 29) (S := S) (by decide) (by decide) hA (by omega) (by rw [show nF 0 = 52 from rfl]; omega)
      have ef := enc_fin h0 s hA (e + 29)
      have hle : fromN (nF 0) (nBi 0) S (e + 1) ≤ nInf 0 := by rw [sp]; exact min_inf h0 _
      have hlt : fromN (nF 0) (nBi 0) S (e + 1) < 2 ^ nB 0 := Nat.lt_of_le_of_lt hle (nB_facts h0).1
      refine ⟨fromN (nF 0) (nBi 0) S (e + 1), hle, n_side h0 h1 hlt hm2, ?_⟩
      rw [show FP.Core.b32 = fmI 1 from rfl, hd]
      have eq : (fmI 1).qmin + ((expN (nF 1) m - 1 : Nat) : Int) = (fmI 0).qmin + ((e + 29 : Nat) : Int) := by
        have a : (fmI 1).qmin = -149 := by decide
        have b : (fmI 0).qmin = -1074 := by decide
        rw [a, b]
        clear sp ef hle hlt
        omega
      rw [eq, sp]
      exact ef
theorem wide_eq {s : Bool} {m : Nat} (hm : m ≤ nInf 1) :
    ∃ m', m' ≤ nInf 0 ∧ fX0_fineFromCoarse (lN (kN 1 s m)) = lN (kN 0 s m') ∧ FP.f2d (UInt32.ofNat (cN 1 s m)) = UInt64.ofNat (cN 0 s m') ∧ fX3_wideBits 0 (lN (kN 1 s m)) = lN (kN 0 s m') ∧ vn_sni2f (lN (kN 1 s m)).toInt32 = false ∧ vf_n64 (FP.f2d (lN (kN 1 s m)).toInt32.toUInt32) := by
  have hI : nInf 1 = 2139095040 := rfl
  obtain ⟨m', h1, h2, h3⟩ := x_wide (s := s) hm
  have e : FP.f2d (UInt32.ofNat (cN 1 s m)) = UInt64.ofNat (cN 0 s m') := by
    have hnn : FP.Core.fIsNaN (UInt32.ofNat (cN 1 s m)) = false := by
      unfold FP.Core.fIsNaN FP.Core.isNaN
      rw [u32_n (by omega)]
      exact decide_eq_false (dec_nn (i := 1) (by decide) s hm)
    unfold FP.f2d
    rw [hnn, if_neg (by decide)]
    unfold FP.Core.f2d
    rw [u32_n (by omega), h3]
  refine ⟨m', h1, h2, e, ?_, ?_, ?_⟩
  · unfold fX3_wideBits
    rw [if_pos rfl, u32_of (by omega), e]
    exact d2b h1
  · unfold vn_sni2f
    rw [u32_of (by omega)]
    have := u32_num (s := s) hm
    rw [decide_eq_false (by simpa using this), Bool.false_and]
  · rw [u32_of (by omega), e]
    exact u64_num h1
