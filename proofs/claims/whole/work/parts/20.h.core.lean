/-! the sum, as the floating point core has it -/
def fmI (i : Nat) : FP.Core.Fmt := if i = 0 then FP.Core.b64 else FP.Core.b32
theorem fm_facts {i : Nat} (h : i < 2) : (fmI i).tails = 2 ^ nF i ∧ (fmI i).exps = 2 * nBi i + 2 ∧ (fmI i).p - 1 = nF i ∧ 1 ≤ (fmI i).p ∧ 2 ≤ (fmI i).w ∧ (fmI i).exps * (fmI i).tails = 2 ^ nB i := by rcases i_cases h with rfl | rfl <;> decide +kernel
/-- the bits of a number, as the core takes them -/
def cN (i : Nat) (s : Bool) (m : Nat) : Nat := s.toNat * 2 ^ nB i + m
theorem dec_fields {i : Nat} (h : i < 2) (s : Bool) {m : Nat} (hm : m < 2 ^ nB i) : FP.Core.fieldT (fmI i) (cN i s m) = m % 2 ^ nF i ∧ FP.Core.fieldE (fmI i) (cN i s m) = m / 2 ^ nF i ∧ FP.Core.fieldS (fmI i) (cN i s m) = s := by
  obtain ⟨h1, h2, h3, h4, h5, h6⟩ := fm_facts h
  have hp := Nat.two_pow_pos (nF i)
  have hb := (nB_facts h).2.2.2
  have hq : m / 2 ^ nF i < 2 * nBi i + 2 := by rw [Nat.div_lt_iff_lt_mul hp]; omega
  have e : cN i s m = 2 ^ nF i * ((2 * nBi i + 2) * s.toNat) + m := by
    unfold cN
    rw [hb, Nat.mul_comm s.toNat, Nat.mul_comm (2 * nBi i + 2) (2 ^ nF i), Nat.mul_assoc]
  have hd : cN i s m / 2 ^ nF i = (2 * nBi i + 2) * s.toNat + m / 2 ^ nF i := by rw [e, Nat.mul_add_div hp]
  unfold FP.Core.fieldT FP.Core.fieldE FP.Core.fieldS
  rw [h1, h2, hd]
  refine ⟨by rw [e, Nat.mul_add_mod], by rw [Nat.mul_add_mod, Nat.mod_eq_of_lt hq], ?_⟩
  rw [Nat.mul_add_div (by omega), Nat.div_eq_of_lt hq, Nat.add_zero]
  cases s <;> rfl
theorem dec_fin {i : Nat} (h : i < 2) (s : Bool) {m : Nat} (hm : m < nInf i) : FP.Core.decode (fmI i) (cN i s m) = .fin s (sigN (nF i) m) ((fmI i).qmin + ((expN (nF i) m - 1 : Nat) : Int)) := by
  obtain ⟨h1, h2, h3, h4, h5, h6⟩ := fm_facts h
  have hp := Nat.two_pow_pos (nF i)
  obtain ⟨f1, f2, f3⟩ := dec_fields h s (m := m) (by have := (nB_facts h).1; omega)
  have hq : m / 2 ^ nF i < 2 * nBi i + 1 := by rw [Nat.div_lt_iff_lt_mul hp, ← nInf_e h]; exact hm
  unfold FP.Core.decode sigN expN
  rw [f1, f2, f3, h1, h2, if_neg (by omega)]
  by_cases c : m < 2 ^ nF i
  · rw [if_pos (Nat.div_eq_of_lt c), if_pos c, if_pos c, Nat.mod_eq_of_lt c]
    simp
  · have h6 : 1 ≤ m / 2 ^ nF i := (Nat.le_div_iff_mul_le hp).mpr (by omega)
    rw [if_neg (by omega), if_neg c, if_neg c]
    congr 1
    omega
theorem dec_inf {i : Nat} (h : i < 2) (s : Bool) : FP.Core.decode (fmI i) (cN i s (nInf i)) = .inf s := by
  obtain ⟨h1, h2, h3, h4, h5, h6⟩ := fm_facts h
  have hp := Nat.two_pow_pos (nF i)
  obtain ⟨f1, f2, f3⟩ := dec_fields h s (m := nInf i) (nB_facts h).1
  unfold FP.Core.decode
  rw [f1, f2, f3, h2, nInf_e h, Nat.mul_div_cancel _ hp, if_pos (by omega), Nat.mul_mod_left, if_pos rfl]
theorem enc_inf {i : Nat} (h : i < 2) (s : Bool) : FP.Core.encode (fmI i) (.inf s) = cN i s (nInf i) := by
  obtain ⟨h1, h2, h3, h4, h5, h6⟩ := fm_facts h
  unfold FP.Core.encode FP.Core.assemble cN
  simp only []
  rw [Nat.add_mul, Nat.mul_assoc, h6, h1, h2, nInf_e h]
  simp
theorem enc_zero {i : Nat} (h : i < 2) (s : Bool) (q : Int) : FP.Core.encode (fmI i) (FP.Core.round (fmI i) (.fin s 0 q)) = cN i s 0 := by
  obtain ⟨h1, h2, h3, h4, h5, h6⟩ := fm_facts h
  unfold FP.Core.round FP.Core.roundRatio FP.Core.encode FP.Core.assemble cN
  simp only [if_true]
  rw [if_pos (by rw [h1]; exact Nat.two_pow_pos _), Nat.add_zero, Nat.add_zero, Nat.add_zero, Nat.mul_assoc, h6]
/-- a number other than 0, rounded -/
theorem enc_fin {i : Nat} (h : i < 2) (s : Bool) {A : Nat} (hA : 0 < A) (k : Nat) : FP.Core.encode (fmI i) (FP.Core.round (fmI i) (.fin s A ((fmI i).qmin + (k : Int)))) = cN i s (min ((2 * nBi i + 1) * 2 ^ nF i) ((A.log2 + k - nF i) * 2 ^ nF i + FP.Core.nearest (A * 2 ^ (k - (A.log2 + k - nF i))) (2 ^ ((A.log2 + k - nF i) - k)))) := by
  obtain ⟨h1, h2, h3, h4, h5, h6⟩ := fm_facts h
  unfold FP.Core.round
  have := (cr_encode (fmI i) h4 h5 s hA k _ rfl).1
  rw [this, h3, h6, h1, h2]
  rfl
theorem min_inf {i : Nat} (h : i < 2) (x : Nat) : min ((2 * nBi i + 1) * 2 ^ nF i) x ≤ nInf i := by rw [nInf_e h]; exact Nat.min_le_left _ _
theorem signed_add (s : Bool) (a b : Nat) : FP.Core.signed s a + FP.Core.signed s b = FP.Core.signed s (a + b) := by cases s <;> simp [FP.Core.signed] <;> omega
theorem signed_sub (s : Bool) {a b : Nat} (h : b ≤ a) : FP.Core.signed s a + FP.Core.signed (!s) b = FP.Core.signed s (a - b) := by cases s <;> simp [FP.Core.signed] <;> omega
theorem signed_abs (s : Bool) (a : Nat) : (FP.Core.signed s a).natAbs = a := by cases s <;> simp [FP.Core.signed]
theorem signed_neg {s : Bool} {a : Nat} (h : 0 < a) : decide (FP.Core.signed s a < 0) = s := by cases s <;> simp [FP.Core.signed] <;> omega
theorem signed_z {s : Bool} {a : Nat} : FP.Core.signed s a = 0 ↔ a = 0 := by cases s <;> simp [FP.Core.signed]
theorem bool_ne {s t : Bool} (h : ¬ s = t) : t = !s := by cases s <;> cases t <;> simp_all
/-- the sum of two finite numbers, the first no smaller than the second -/
theorem add_core {i : Nat} (h : i < 2) (s t : Bool) {m n : Nat} (hm : m < nInf i) (hn : n ≤ m) :
    FP.Core.add (fmI i) (cN i s m) (cN i t n) =
      if s = t then
        if sigN (nF i) m * 2 ^ (expN (nF i) m - expN (nF i) n) + sigN (nF i) n = 0 then cN i s 0
        else cN i s (fromN (nF i) (nBi i) (8 * sigN (nF i) m + sdN (8 * sigN (nF i) n) (2 ^ (expN (nF i) m - expN (nF i) n))) (expN (nF i) m))
      else
        if sigN (nF i) m * 2 ^ (expN (nF i) m - expN (nF i) n) - sigN (nF i) n = 0 then cN i false 0
        else cN i s (fromN (nF i) (nBi i) (8 * sigN (nF i) m - sdN (8 * sigN (nF i) n) (2 ^ (expN (nF i) m - expN (nF i) n))) (expN (nF i) m)) := by
  obtain ⟨g1, g2, g3⟩ := sig_mono (F := nF i) hn
  have em := (sig_e (nF i) m).2.1
  have en := (sig_e (nF i) n).2.1
  have hF := (nF_facts h).2.1
  have hbi := (nF_facts h).2.2.2.2
  unfold FP.Core.add
  rw [dec_fin h s hm, dec_fin h t (show n < nInf i by omega)]
  obtain ⟨k, hk⟩ : ∃ k, k = expN (nF i) n - 1 := ⟨_, rfl⟩
  obtain ⟨D, hD⟩ : ∃ D, D = expN (nF i) m - expN (nF i) n := ⟨_, rfl⟩
  have e1 : expN (nF i) m - 1 = k + D := by omega
  have e2 : expN (nF i) m = k + D + 1 := by omega
  rw [← hD] at g2 g3
  rw [← hD, e1, ← hk, e2]
  generalize hc : sigN (nF i) m = c at *
  generalize hd : sigN (nF i) n = d at *
  have hcl := sig_lt (F := nF i) (m := m)
  have hdl := sig_lt (F := nF i) (m := n)
  rw [hc] at hcl
  rw [hd] at hdl
  unfold FP.Core.exactSum
  simp only []
  have e3 : min ((fmI i).qmin + ((k + D : Nat) : Int)) ((fmI i).qmin + (k : Int)) = (fmI i).qmin + (k : Int) := by omega
  rw [e3]
  unfold FP.Core.sumUnits FP.Core.inUnits
  have e4 : ((fmI i).qmin + ((k + D : Nat) : Int) - ((fmI i).qmin + (k : Int))).toNat = D := by omega
  have e5 : ((fmI i).qmin + (k : Int) - ((fmI i).qmin + (k : Int))).toNat = 0 := by omega
  rw [e4, e5, Nat.pow_zero, Nat.mul_one]
  by_cases hst : s = t
  · subst hst
    rw [if_pos rfl, signed_add, signed_abs]
    unfold FP.Core.sumSign
    by_cases hz : c * 2 ^ D + d = 0
    · rw [if_pos hz, hz, if_pos (signed_z.mpr rfl), Bool.and_self]
      exact enc_zero h s _
    · rw [if_neg hz, if_neg (fun z => hz (signed_z.mp z)), signed_neg (by omega), enc_fin h s (by omega) k]
      rw [sum_same hF (by omega) hcl hdl g2 (by omega)]
  · rw [if_neg hst]
    have ht : t = !s := bool_ne hst
    subst ht
    rw [signed_sub s g3, signed_abs]
    unfold FP.Core.sumSign
    obtain ⟨q1, q2, q3⟩ := sum_diff (k := k) hF (show 1 ≤ nBi i by omega) hcl hdl g2 g3
    by_cases hz : c * 2 ^ D - d = 0
    · rw [if_pos hz, hz, if_pos (signed_z.mpr rfl)]
      have : (s && !s) = false := by cases s <;> rfl
      rw [this]
      exact enc_zero h false _
    · rw [if_neg hz, if_neg (fun z => hz (signed_z.mp z)), signed_neg (by omega), enc_fin h s (by omega) k, q3 (by omega)]
