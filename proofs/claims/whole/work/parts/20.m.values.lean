/-! sums and differences of values -/
theorem enc_val {i : Nat} (h : i < 2) {A k r : Nat} (hr : r ≤ nInf i) (hv : A * 2 ^ k = vU (nF i) r) : FP.Core.encode (fmI i) (FP.Core.round (fmI i) (.fin false A ((fmI i).qmin + (k : Int)))) = cN i false r := by
  rcases Nat.eq_zero_or_pos A with z | z
  · have : r = 0 := vU_inj (F := nF i) (by rw [vU_zero, ← hv, z, Nat.zero_mul])
    rw [z, this]
    exact enc_zero h false _
  · exact round_val h false z hr hv
theorem add_val {i : Nat} (h : i < 2) {m n r : Nat} (hm : m < nInf i) (hn : n < nInf i) (hr : r ≤ nInf i) (hv : vU (nF i) m + vU (nF i) n = vU (nF i) r) : FP.Core.add (fmI i) (cN i false m) (cN i false n) = cN i false r := by
  unfold FP.Core.add
  rw [dec_fin h false hm, dec_fin h false hn]
  unfold FP.Core.exactSum
  unfold vU at hv
  simp only []
  generalize expN (nF i) m - 1 = a at *
  generalize expN (nF i) n - 1 = b at *
  obtain ⟨e, he⟩ : ∃ e, e = min a b := ⟨_, rfl⟩
  have e1 : min ((fmI i).qmin + (a : Int)) ((fmI i).qmin + (b : Int)) = (fmI i).qmin + (e : Int) := by omega
  rw [e1]
  unfold FP.Core.sumUnits FP.Core.inUnits
  have e2 : ((fmI i).qmin + (a : Int) - ((fmI i).qmin + (e : Int))).toNat = a - e := by omega
  have e3 : ((fmI i).qmin + (b : Int) - ((fmI i).qmin + (e : Int))).toNat = b - e := by omega
  rw [e2, e3, signed_add, signed_abs]
  have e4 : FP.Core.sumSign false false (FP.Core.signed false (sigN (nF i) m * 2 ^ (a - e) + sigN (nF i) n * 2 ^ (b - e))) = false := by
    unfold FP.Core.sumSign FP.Core.signed
    simp only [Bool.false_eq_true, if_false, Bool.and_self]
    split
    · rfl
    · apply decide_eq_false; omega
  rw [e4]
  refine enc_val h hr ?_
  rw [Nat.add_mul, Nat.mul_assoc, Nat.mul_assoc, ← Nat.pow_add, ← Nat.pow_add, show a - e + e = a by omega, show b - e + e = b by omega]
  exact hv
theorem sub_val {i : Nat} (h : i < 2) {m n r : Nat} (hm : m < nInf i) (hn : n < nInf i) (hr : r ≤ nInf i) (hv : vU (nF i) m = vU (nF i) n + vU (nF i) r) : FP.Core.sub (fmI i) (cN i false m) (cN i false n) = cN i false r := by
  unfold FP.Core.sub
  rw [dec_fin h false hm, dec_fin h false hn]
  unfold FP.Core.negate FP.Core.exactSum
  unfold vU at hv
  have hvr : vU (nF i) r = sigN (nF i) r * 2 ^ (expN (nF i) r - 1) := rfl
  rw [← hvr] at hv
  simp only []
  generalize expN (nF i) m - 1 = a at *
  generalize expN (nF i) n - 1 = b at *
  obtain ⟨e, he⟩ : ∃ e, e = min a b := ⟨_, rfl⟩
  have e1 : min ((fmI i).qmin + (a : Int)) ((fmI i).qmin + (b : Int)) = (fmI i).qmin + (e : Int) := by omega
  rw [e1]
  unfold FP.Core.sumUnits FP.Core.inUnits
  have e2 : ((fmI i).qmin + (a : Int) - ((fmI i).qmin + (e : Int))).toNat = a - e := by omega
  have e3 : ((fmI i).qmin + (b : Int) - ((fmI i).qmin + (e : Int))).toNat = b - e := by omega
  rw [e2, e3]
  have k1 : sigN (nF i) m * 2 ^ (a - e) * 2 ^ e = sigN (nF i) m * 2 ^ a := by rw [Nat.mul_assoc, ← Nat.pow_add]; congr 2; omega
  have k2 : sigN (nF i) n * 2 ^ (b - e) * 2 ^ e = sigN (nF i) n * 2 ^ b := by rw [Nat.mul_assoc, ← Nat.pow_add]; congr 2; omega
  have hle : sigN (nF i) n * 2 ^ (b - e) ≤ sigN (nF i) m * 2 ^ (a - e) := by
    have : sigN (nF i) n * 2 ^ (b - e) * 2 ^ e ≤ sigN (nF i) m * 2 ^ (a - e) * 2 ^ e := by rw [k1, k2]; omega
    exact Nat.le_of_mul_le_mul_right this (Nat.two_pow_pos e)
  rw [show (!false) = true from rfl] at *
  have hs := signed_sub false hle
  rw [show (!false) = true from rfl] at hs
  rw [hs, signed_abs]
  have e4 : FP.Core.sumSign false true (FP.Core.signed false (sigN (nF i) m * 2 ^ (a - e) - sigN (nF i) n * 2 ^ (b - e))) = false := by
    unfold FP.Core.sumSign FP.Core.signed
    simp only [Bool.false_eq_true, if_false, Bool.false_and]
    split
    · rfl
    · apply decide_eq_false; omega
  rw [e4]
  refine enc_val h hr ?_
  rw [Nat.sub_mul, k1, k2]
  omega
/-! whole numbers of doubles -/
theorem u_int {Q : Nat} (hQ : Q < 2 ^ 53) : ∃ M, M < nInf 0 ∧ vU 52 M = Q * 2 ^ 1074 := by
  obtain ⟨M, h1, h2⟩ := ex_val (F := 52) (bi := 1023) (A := Q) (k := 1074) (by omega) (by decide)
  exact ⟨M, by rw [nInf_e (by decide)]; exact h1, h2⟩
theorem l2d_val {Q M : Nat} (hQ : Q < 2 ^ 53) (hM : M < nInf 0) (hv : vU 52 M = Q * 2 ^ 1074) : FP.l2d (lN Q) = UInt64.ofNat (cN 0 false M) := by
  show UInt64.ofNat (FP.Core.encode FP.Core.b64 (FP.Core.round FP.Core.b64 (FP.Core.ofInt (lN Q).toInt))) = _
  rw [jN_toInt (by omega)]
  congr 1
  unfold FP.Core.ofInt
  have e1 : decide ((Q : Int) < 0) = false := decide_eq_false (by omega)
  have e2 : ((0 : Int)) = (fmI 0).qmin + ((1074 : Nat) : Int) := by decide
  rw [e1, Int.natAbs_natCast, e2]
  exact enc_val (i := 0) (by decide) (Nat.le_of_lt hM) hv.symm
theorem d2l_val {M : Nat} (hM : M < 1075 * 2 ^ 52) : FP.d2l (UInt64.ofNat (cN 0 false M)) = lN (vU 52 M / 2 ^ 1074) ∧ vU 52 M / 2 ^ 1074 < 2 ^ 52 ∧ ∃ r, r < nInf 0 ∧ vU 52 r = vU 52 M % 2 ^ 1074 := by
  have hI0 : nInf 0 = 9218868437227405312 := rfl
  have hMi : M < nInf 0 := by omega
  obtain ⟨a1, a2, a3⟩ := sig_e 52 M
  have hl := sig_lt (F := 52) (m := M)
  have he : expN 52 M ≤ 1074 := by
    unfold expN
    split
    · omega
    · have : M / 2 ^ 52 < 1075 := by rw [Nat.div_lt_iff_lt_mul (by decide)]; exact hM
      omega
  obtain ⟨sh, hsh⟩ : ∃ sh, sh = 1075 - expN 52 M := ⟨_, rfl⟩
  have hdiv : vU 52 M / 2 ^ 1074 = sigN 52 M / 2 ^ sh := by
    unfold vU
    rw [show 1074 = sh + (expN 52 M - 1) by omega, Nat.pow_add, Nat.mul_div_mul_right _ _ (Nat.two_pow_pos _)]
  have hmod : vU 52 M % 2 ^ 1074 = sigN 52 M % 2 ^ sh * 2 ^ (expN 52 M - 1) := by
    unfold vU
    rw [show 1074 = sh + (expN 52 M - 1) by omega, Nat.pow_add, Nat.mul_mod_mul_right]
  have hQ : sigN 52 M / 2 ^ sh < 2 ^ 52 := by
    have h1 : 2 ^ 1 ≤ 2 ^ sh := Nat.pow_le_pow_right (by decide) (by omega)
    rw [Nat.div_lt_iff_lt_mul (by omega)]
    have := Nat.mul_le_mul_left (2 ^ 52) h1
    omega
  refine ⟨?_, by rw [hdiv]; exact hQ, ?_⟩
  · show FP.Core.toL (FP.Core.decode FP.Core.b64 _) = _
    rw [u64_n (by omega)]
    have hd := dec_fin (i := 0) (by decide) false hMi
    rw [show FP.Core.b64 = fmI 0 from rfl, hd]
    unfold FP.Core.toL FP.Core.toInt FP.Core.truncate
    have q1 : ((fmI 0).qmin + ((expN (nF 0) M - 1 : Nat) : Int)).toNat = 0 := by
      have b : (fmI 0).qmin = -1074 := by decide
      have : nF 0 = 52 := rfl
      rw [b, this]; omega
    have q2 : (-((fmI 0).qmin + ((expN (nF 0) M - 1 : Nat) : Int))).toNat = sh := by
      have b : (fmI 0).qmin = -1074 := by decide
      have : nF 0 = 52 := rfl
      rw [b, this]; omega
    simp only []
    rw [q1, q2, Nat.pow_zero, Nat.mul_one, show nF 0 = 52 from rfl, hdiv]
    unfold FP.Core.signed
    simp only [Bool.false_eq_true, if_false]
    generalize sigN 52 M / 2 ^ sh = Q at *
    have : max (-2 ^ 63) (min (2 ^ 63 - 1) (Q : Int)) = (Q : Int) := by omega
    rw [this]
    exact Int64.ofInt_eq_ofNat
  · rw [hmod]
    obtain ⟨r, h1, h2⟩ := ex_val (F := 52) (bi := 1023) (A := sigN 52 M % 2 ^ sh) (k := expN 52 M - 1) (Nat.lt_of_le_of_lt (Nat.mod_le _ _) hl) (by omega)
    exact ⟨r, by rw [nInf_e (by decide)]; exact h1, h2⟩
