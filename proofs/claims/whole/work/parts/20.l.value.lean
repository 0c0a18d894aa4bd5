/-! the value of a size, in the format's least numbers -/
def vU (F m : Nat) : Nat := sigN F m * 2 ^ (expN F m - 1)
theorem vU_lt {F m n : Nat} (h : m < n) : vU F m < vU F n := by
  have hp := Nat.two_pow_pos F
  obtain ⟨a1, a2, a3⟩ := sig_e F m
  obtain ⟨b1, b2, b3⟩ := sig_e F n
  have hl := sig_lt (F := F) (m := m)
  obtain ⟨g1, -, -⟩ := sig_mono (F := F) (Nat.le_of_lt h)
  unfold vU
  rcases Nat.eq_or_lt_of_le g1 with q | q
  · rw [q] at a1
    rw [q]
    exact Nat.mul_lt_mul_of_pos_right (by omega) (Nat.two_pow_pos _)
  · have c1 := b3 (by omega)
    obtain ⟨d, hd⟩ : ∃ d, expN F n - 1 = expN F m - 1 + 1 + d := ⟨expN F n - expN F m - 1, by omega⟩
    rw [hd, Nat.pow_add, Nat.pow_succ]
    have p1 := Nat.two_pow_pos (expN F m - 1)
    have p2 := Nat.two_pow_pos d
    have h1 : sigN F m * 2 ^ (expN F m - 1) < 2 * 2 ^ F * 2 ^ (expN F m - 1) := Nat.mul_lt_mul_of_pos_right hl p1
    have h2 : 2 ^ F * (2 ^ (expN F m - 1) * 2) ≤ sigN F n * (2 ^ (expN F m - 1) * 2 * 2 ^ d) := Nat.mul_le_mul c1 (Nat.le_mul_of_pos_right _ p2)
    have h3 : 2 * 2 ^ F * 2 ^ (expN F m - 1) = 2 ^ F * (2 ^ (expN F m - 1) * 2) := by rw [Nat.mul_comm 2 (2 ^ F), Nat.mul_assoc, Nat.mul_comm 2]
    omega
theorem vU_iff {F m n : Nat} : vU F m < vU F n ↔ m < n := by
  constructor
  · intro h
    apply Nat.lt_of_not_le; intro z
    rcases Nat.eq_or_lt_of_le z with q | q
    · rw [q] at h; omega
    · have := vU_lt (F := F) q; omega
  · exact vU_lt
theorem vU_inj {F m n : Nat} (h : vU F m = vU F n) : m = n := by
  rcases Nat.lt_trichotomy m n with q | q | q
  · have := vU_lt (F := F) q; omega
  · exact q
  · have := vU_lt (F := F) q; omega
theorem vU_zero (F : Nat) : vU F 0 = 0 := by
  unfold vU sigN; rw [if_pos (Nat.two_pow_pos F), Nat.zero_mul]
/-- the size made of an exponent and a significand -/
theorem vU_make {F q C : Nat} (h1 : q = 0 ∨ 2 ^ F ≤ C) (h2 : C ≤ 2 * 2 ^ F) : vU F (q * 2 ^ F + C) = C * 2 ^ q := by
  have hp := Nat.two_pow_pos F
  unfold vU sigN expN
  rcases Nat.lt_or_ge C (2 ^ F) with h | h
  · have hq : q = 0 := by omega
    rw [hq, Nat.zero_mul, Nat.zero_add, if_pos h, if_pos h]
  · have hd : (q * 2 ^ F + C) / 2 ^ F = q + C / 2 ^ F := by rw [Nat.add_comm, Nat.add_mul_div_right _ _ hp, Nat.add_comm]
    have hm : (q * 2 ^ F + C) % 2 ^ F = C % 2 ^ F := by rw [Nat.add_comm, Nat.add_mul_mod_self_right]
    have hge : ¬ q * 2 ^ F + C < 2 ^ F := by omega
    rw [if_neg hge, if_neg hge, hd, hm]
    rcases Nat.eq_or_lt_of_le h2 with e | e
    · rw [e, Nat.mul_mod_left, Nat.mul_div_cancel _ hp, Nat.add_zero, show q + 2 - 1 = q + 1 by omega, Nat.pow_succ, Nat.mul_comm 2 (2 ^ F), Nat.mul_assoc, Nat.mul_comm 2]
    · have e1 : C / 2 ^ F = 1 := by
        rw [Nat.div_eq_iff hp]
        omega
      have e2 : C % 2 ^ F = C - 2 ^ F := by
        have := Nat.div_add_mod C (2 ^ F)
        rw [e1] at this
        omega
      rw [e1, e2, show q + 1 - 1 = q by omega]
      congr 1
      omega
theorem nr_one (X : Nat) : FP.Core.nearest X 1 = X := by unfold FP.Core.nearest; rw [Nat.mod_one, if_pos (by decide), Nat.div_one]
/-- a number of few enough digits is a number of the format -/
theorem ex_val {F bi A k : Nat} (hA : A < 2 * 2 ^ F) (hk : k < 2 * bi) : ∃ M, M < (2 * bi + 1) * 2 ^ F ∧ vU F M = A * 2 ^ k := by
  have hp := Nat.two_pow_pos F
  rcases Nat.eq_zero_or_pos A with h0 | h0
  · exact ⟨0, Nat.mul_pos (by omega) hp, by rw [vU_zero, h0, Nat.zero_mul]⟩
  · have hl := (Nat.log2_eq_iff (by omega : A ≠ 0)).mp rfl
    have hlF : A.log2 ≤ F := by
      have := (Nat.log2_lt (by omega : A ≠ 0) (k := F + 1)).mpr (by rw [Nat.pow_succ]; omega)
      omega
    obtain ⟨q, hq⟩ : ∃ q, q = A.log2 + k - F := ⟨_, rfl⟩
    have hC1 : q = 0 ∨ 2 ^ F ≤ A * 2 ^ (k - q) := by
      rcases Nat.eq_zero_or_pos q with z | z
      · exact Or.inl z
      · right
        refine Nat.le_trans ?_ (Nat.mul_le_mul_right _ hl.1)
        rw [← Nat.pow_add]
        exact Nat.pow_le_pow_right (by decide) (by omega)
    have hC2 : A * 2 ^ (k - q) < 2 * 2 ^ F := by
      refine Nat.lt_of_lt_of_le (Nat.mul_lt_mul_of_pos_right hl.2 (Nat.two_pow_pos _)) ?_
      rw [← Nat.pow_add, ← Nat.pow_succ']
      exact Nat.pow_le_pow_right (by decide) (by omega)
    refine ⟨q * 2 ^ F + A * 2 ^ (k - q), ?_, ?_⟩
    · have := Nat.mul_le_mul_right (2 ^ F) (show q + 2 ≤ 2 * bi + 1 by omega)
      have := Nat.add_mul q 2 (2 ^ F)
      omega
    · rw [vU_make hC1 (Nat.le_of_lt hC2), Nat.mul_assoc, ← Nat.pow_add]
      congr 2
      omega
/-- a value of the format is not changed by rounding -/
theorem round_val {i : Nat} (h : i < 2) (s : Bool) {A k m : Nat} (hA : 0 < A) (hm : m ≤ nInf i) (hv : A * 2 ^ k = vU (nF i) m) : FP.Core.encode (fmI i) (FP.Core.round (fmI i) (.fin s A ((fmI i).qmin + (k : Int)))) = cN i s m := by
  rw [enc_fin h s hA k]
  obtain ⟨a1, a2, a3⟩ := sig_e (nF i) m
  have hl := sig_lt (F := nF i) (m := m)
  have hp := Nat.two_pow_pos (nF i)
  have hlg := lg_mul A k hA
  unfold vU at hv
  have hs0 : 0 < sigN (nF i) m := by
    apply Nat.pos_of_ne_zero; intro z
    rw [z, Nat.zero_mul] at hv
    have := Nat.mul_pos hA (Nat.two_pow_pos k)
    omega
  have hlg2 := lg_mul (sigN (nF i) m) (expN (nF i) m - 1) hs0
  rw [← hv, hlg] at hlg2
  have hq : A.log2 + k - nF i = expN (nF i) m - 1 := by
    rcases Nat.lt_or_ge (sigN (nF i) m) (2 ^ nF i) with c | c
    · have e1 : expN (nF i) m = 1 := by
        rcases Nat.lt_or_ge 1 (expN (nF i) m) with z | z
        · have := a3 z; omega
        · omega
      have := (Nat.log2_lt (by omega : sigN (nF i) m ≠ 0)).mpr c
      omega
    · have : (sigN (nF i) m).log2 = nF i := lg_of c (by rw [Nat.pow_succ]; omega)
      omega
  rw [hq]
  generalize expN (nF i) m - 1 = q at *
  have hn : FP.Core.nearest (A * 2 ^ (k - q)) (2 ^ (q - k)) = sigN (nF i) m := by
    rcases Nat.lt_or_ge k q with c | c
    · rw [show k - q = 0 by omega, Nat.pow_zero, Nat.mul_one]
      have : A = sigN (nF i) m * 2 ^ (q - k) := by
        apply Nat.eq_of_mul_eq_mul_right (Nat.two_pow_pos k)
        rw [hv, Nat.mul_assoc, ← Nat.pow_add]
        congr 2; omega
      rw [this]
      have := nr_scale (sigN (nF i) m) 1 (2 ^ (q - k)) (Nat.two_pow_pos _)
      rw [Nat.one_mul] at this
      rw [this, nr_one]
    · rw [show q - k = 0 by omega, Nat.pow_zero, nr_one]
      apply Nat.eq_of_mul_eq_mul_right (Nat.two_pow_pos q)
      rw [← hv, Nat.mul_assoc, ← Nat.pow_add]
      congr 2; omega
  rw [hn, show q * 2 ^ nF i + sigN (nF i) m = m by omega, Nat.min_eq_right]
  rw [← nInf_e h]; exact hm
theorem cmp_pos {x y P : Nat} (hP : 0 < P) : compare ((x * P : Nat) : Int) ((y * P : Nat) : Int) = compare (x : Int) (y : Int) := by
  have e : ∀ a b : Nat, compare (a : Int) (b : Int) = if a < b then .lt else if a = b then .eq else .gt := by
    intro a b
    show (if (a : Int) < b then _ else if (a : Int) = b then _ else _) = _
    simp only [Int.ofNat_lt, Int.ofNat_inj]
  rw [e, e]
  simp only [Nat.mul_lt_mul_right hP, Nat.mul_right_cancel_iff hP]
theorem ord_val {i : Nat} (h : i < 2) {m n : Nat} (hm : m < nInf i) (hn : n < nInf i) : FP.Core.order (FP.Core.decode (fmI i) (cN i false m)) (FP.Core.decode (fmI i) (cN i false n)) = some (compare (vU (nF i) m : Int) (vU (nF i) n : Int)) := by
  rw [dec_fin h false hm, dec_fin h false hn]
  unfold FP.Core.order vU
  simp only []
  generalize expN (nF i) m - 1 = a
  generalize expN (nF i) n - 1 = b
  obtain ⟨e, he⟩ : ∃ e, e = min a b := ⟨_, rfl⟩
  have e1 : min ((fmI i).qmin + (a : Int)) ((fmI i).qmin + (b : Int)) = (fmI i).qmin + (e : Int) := by omega
  rw [e1]
  unfold FP.Core.inUnits FP.Core.signed
  have e2 : ((fmI i).qmin + (a : Int) - ((fmI i).qmin + (e : Int))).toNat = a - e := by omega
  have e3 : ((fmI i).qmin + (b : Int) - ((fmI i).qmin + (e : Int))).toNat = b - e := by omega
  rw [e2, e3]
  simp only [Bool.false_eq_true, if_false]
  rw [← cmp_pos (P := 2 ^ e) (Nat.two_pow_pos e), Nat.mul_assoc, Nat.mul_assoc, ← Nat.pow_add, ← Nat.pow_add]
  congr 6 <;> omega
