/-! the sum: class and core -/
theorem exactSum_comm (x y : FP.Core.Datum) : FP.Core.exactSum x y = FP.Core.exactSum y x := by
  cases x <;> cases y <;> simp only [FP.Core.exactSum]
  · rename_i s t
    by_cases h : s = t
    · rw [if_pos h, if_pos h.symm, h]
    · rw [if_neg h, if_neg (fun z => h z.symm)]
  · rename_i s c q t d r
    have e1 : min q r = min r q := by omega
    have e2 : FP.Core.sumUnits s c q t d r (min r q) = FP.Core.sumUnits t d r s c q (min r q) := by unfold FP.Core.sumUnits; exact Int.add_comm _ _
    rw [e1, e2]
    congr 1
    unfold FP.Core.sumSign
    rw [Bool.and_comm]
theorem add_comm (f : FP.Core.Fmt) (x y : Nat) : FP.Core.add f x y = FP.Core.add f y x := by unfold FP.Core.add; rw [exactSum_comm]
theorem nI_sub {a b : Nat} (h : b ≤ a) : nI a - nI b = nI (a - b) := (Int32.ofNat_sub a b h).symm
theorem exp_lt {i : Nat} (h : i < 2) {m : Nat} (hm : m < 2 ^ nB i) : expN (nF i) m < 2 ^ 12 := by
  have hp := Nat.two_pow_pos (nF i)
  have hb := (nB_facts h).2.2.2
  have hbi := nF_facts h
  have hq : m / 2 ^ nF i < 2 * nBi i + 2 := by rw [Nat.div_lt_iff_lt_mul hp]; omega
  unfold expN; split <;> omega
theorem st_zero {A d S : Nat} (hd : 0 < d) (h : St (8 * A) d S) : S = 0 ↔ A = 0 := by
  rcases h with h | ⟨h1, h2, h3⟩
  · constructor
    · intro z; rw [z] at h; omega
    · intro z; rw [z] at h
      rcases Nat.eq_zero_or_pos S with q | q
      · exact q
      · have := Nat.mul_pos q hd; omega
  · constructor
    · intro z; rw [z] at h1; omega
    · intro z; rw [z] at h2
      have : 1 * d ≤ S * d := Nat.mul_le_mul_right d (by omega)
      omega
theorem x_sumL {i : Nat} (h : i < 2) {s t : Bool} {m n : Nat} (hm : m ≤ nInf i) (hn : n ≤ m) (hop : ¬ (m = nInf i ∧ n = nInf i ∧ ¬ s = t)) :
    ∃ s' m', m' ≤ nInf i ∧ fX0_sumByLarger i (lN (kN i s m)) (lN (kN i t n)) = lN (kN i s' m') ∧ FP.Core.add (fmI i) (cN i s m) (cN i t n) = cN i s' m' := by
  have hB := nB_facts h
  have hF := nF_facts h
  have hm2 : m < 2 ^ nB i := by omega
  have hn2 : n < 2 ^ nB i := by omega
  have hI2 : nInf i < 2 ^ 63 := by omega
  unfold fX0_sumByLarger
  rw [n_size h hm2, n_size h hn2, kInf_n h]
  by_cases hi : m = nInf i
  · rw [if_pos (by rw [hi])]
    refine ⟨s, m, hm, rfl, ?_⟩
    unfold FP.Core.add
    rw [hi, dec_inf h s]
    by_cases hj : n = nInf i
    · have hst : s = t := Classical.byContradiction (fun z => hop ⟨hi, hj, z⟩)
      rw [hj, dec_inf h t, hst]
      unfold FP.Core.exactSum
      simp only [if_true]
      exact enc_inf h t
    · rw [dec_fin h t (show n < nInf i by omega)]
      exact enc_inf h s
  · rw [if_neg (by rw [jN_inj (by omega) (by omega)]; exact hi)]
    have hmi : m < nInf i := by omega
    have core := add_core h s t hmi hn
    have h3 : (3 : Int32) = nI 3 := rfl
    obtain ⟨g1, g2, g3⟩ := sig_mono (F := nF i) hn
    have em := (sig_e (nF i) m).2.1
    have en := (sig_e (nF i) n).2.1
    have hcl := sig_lt (F := nF i) (m := m)
    have hdl := sig_lt (F := nF i) (m := n)
    have hel := exp_lt h hm2
    have hx1 : fX0_significandOf i (lN m) <<< ((3 : Int32).toInt64 &&& 63) = lN (8 * sigN (nF i) m) := by
      rw [x_sig h hm2, h3, jN_shl _ (by decide)]; congr 1; omega
    have hx2 : fX0_significandOf i (lN n) <<< ((3 : Int32).toInt64 &&& 63) = lN (8 * sigN (nF i) n) := by
      rw [x_sig h hn2, h3, jN_shl _ (by decide)]; congr 1; omega
    rw [hx1, hx2, x_exp h hm2, x_exp h hn2, nI_sub g1, x_sd (by omega) (by omega)]
    dsimp only
    generalize hD : expN (nF i) m - expN (nF i) n = D at *
    generalize hc : sigN (nF i) m = c at *
    generalize hd : sigN (nF i) n = d at *
    obtain ⟨q1, q2, q3⟩ := sum_diff (bi := nBi i) (k := expN (nF i) n - 1) hF.2.1 (show 1 ≤ nBi i by omega) hcl hdl g2 g3
    have hsd : sdN (8 * d) (2 ^ D) ≤ 16 * 2 ^ nF i := by
      have := sd_le (x := 8 * d) (d := 2 ^ D) (Nat.two_pow_pos D)
      have h9 : 8 * d / 2 ^ D ≤ 8 * d := Nat.div_le_self _ _
      omega
    have hst2 : St (8 * (c * 2 ^ D + d)) (2 ^ D) (8 * c + sdN (8 * d) (2 ^ D)) := by
      have := st_add (st_sd (8 * d) (2 ^ D) (Nat.two_pow_pos D)) (4 * c)
      rw [show 2 * (4 * c) = 8 * c by omega, Nat.mul_assoc, ← Nat.mul_add] at this
      exact this
    have z1 := st_zero (Nat.two_pow_pos D) hst2
    have z2 := st_zero (Nat.two_pow_pos D) q2
    have h0 : (0 : Int64) = lN 0 := rfl
    have nn1 := kN_nn h (s := s) hm2
    have nn2 := kN_nn h (s := t) hn2
    rw [jN_add, jN_sub q1]
    have w1 : (lN (8 * c + sdN (8 * d) (2 ^ D)) = 0) ↔ 8 * c + sdN (8 * d) (2 ^ D) = 0 := by rw [h0]; exact jN_inj (by omega) (by decide)
    have w2 : (lN (8 * c - sdN (8 * d) (2 ^ D)) = 0) ↔ 8 * c - sdN (8 * d) (2 ^ D) = 0 := by rw [h0]; exact jN_inj (by omega) (by decide)
    have f1 : fX0_sizeFrom i (lN (8 * c + sdN (8 * d) (2 ^ D))) (nI (expN (nF i) m)) = lN (fromN (nF i) (nBi i) (8 * c + sdN (8 * d) (2 ^ D)) (expN (nF i) m)) := x_from h (by omega) em (by omega)
    have f2 : fX0_sizeFrom i (lN (8 * c - sdN (8 * d) (2 ^ D))) (nI (expN (nF i) m)) = lN (fromN (nF i) (nBi i) (8 * c - sdN (8 * d) (2 ^ D)) (expN (nF i) m)) := x_from h (by omega) em (by omega)
    have ee : expN (nF i) m = expN (nF i) n - 1 + D + 1 := by omega
    have b1 : 0 < c * 2 ^ D + d → fromN (nF i) (nBi i) (8 * c + sdN (8 * d) (2 ^ D)) (expN (nF i) m) ≤ nInf i := fun hA => by
      rw [ee, sum_same hF.2.1 (by omega) hcl hdl g2 hA]; exact min_inf h _
    have b2 : 0 < c * 2 ^ D - d → fromN (nF i) (nBi i) (8 * c - sdN (8 * d) (2 ^ D)) (expN (nF i) m) ≤ nInf i := fun hA => by
      rw [ee, q3 hA]; exact min_inf h _
    by_cases hst : s = t
    · rw [if_pos hst] at core
      have main : (if lN (8 * c + sdN (8 * d) (2 ^ D)) = 0 then lN (kN i s m) else fX0_withSideOf i (fX0_sizeFrom i (lN (8 * c + sdN (8 * d) (2 ^ D))) (nI (expN (nF i) m))) (lN (kN i s m))) = (if c * 2 ^ D + d = 0 then lN (kN i s m) else lN (kN i s (fromN (nF i) (nBi i) (8 * c + sdN (8 * d) (2 ^ D)) (expN (nF i) m)))) := by
        by_cases hz : c * 2 ^ D + d = 0
        · rw [if_pos (w1.mpr (z1.mpr hz)), if_pos hz]
        · rw [if_neg (fun z => hz (z1.mp (w1.mp z))), if_neg hz, f1]
          exact n_side h h (by have := b1 (by omega); omega) hm2
      have goal : ∃ s' m', m' ≤ nInf i ∧ (if c * 2 ^ D + d = 0 then lN (kN i s m) else lN (kN i s (fromN (nF i) (nBi i) (8 * c + sdN (8 * d) (2 ^ D)) (expN (nF i) m)))) = lN (kN i s' m') ∧ FP.Core.add (fmI i) (cN i s m) (cN i t n) = cN i s' m' := by
        by_cases hz : c * 2 ^ D + d = 0
        · have hc0 : c = 0 := by
            rcases Nat.eq_zero_or_pos c with q | q
            · exact q
            · have := Nat.mul_pos q (Nat.two_pow_pos D); omega
          have hm0 : m = 0 := by
            have := sig_e (nF i) m
            rw [hc, hc0] at this
            have h5 : expN (nF i) m = 1 := by
              rcases Nat.lt_or_ge 1 (expN (nF i) m) with q | q
              · have := this.2.2 q; have := Nat.two_pow_pos (nF i); omega
              · omega
            rw [h5] at this
            omega
          rw [if_pos hz] at core
          exact ⟨s, 0, Nat.zero_le _, by rw [if_pos hz, hm0], core⟩
        · rw [if_neg hz] at core
          exact ⟨s, _, b1 (by omega), by rw [if_neg hz], core⟩
      subst hst
      cases s
      · rw [if_pos (nn1.mpr rfl), if_pos (nn2.mpr rfl), main]; exact goal
      · rw [if_neg (fun z => by have := nn1.mp z; simp at this), if_neg (fun z => by have := nn2.mp z; simp at this), main]; exact goal
    · rw [if_neg hst] at core
      have main : (if lN (8 * c - sdN (8 * d) (2 ^ D)) = 0 then 0 else fX0_withSideOf i (fX0_sizeFrom i (lN (8 * c - sdN (8 * d) (2 ^ D))) (nI (expN (nF i) m))) (lN (kN i s m))) = (if c * 2 ^ D - d = 0 then lN (kN i false 0) else lN (kN i s (fromN (nF i) (nBi i) (8 * c - sdN (8 * d) (2 ^ D)) (expN (nF i) m)))) := by
        by_cases hz : c * 2 ^ D - d = 0
        · rw [if_pos (w2.mpr (z2.mpr hz)), if_pos hz]; rfl
        · rw [if_neg (fun z => hz (z2.mp (w2.mp z))), if_neg hz, f2]
          exact n_side h h (by have := b2 (by omega); omega) hm2
      have goal : ∃ s' m', m' ≤ nInf i ∧ (if c * 2 ^ D - d = 0 then lN (kN i false 0) else lN (kN i s (fromN (nF i) (nBi i) (8 * c - sdN (8 * d) (2 ^ D)) (expN (nF i) m)))) = lN (kN i s' m') ∧ FP.Core.add (fmI i) (cN i s m) (cN i t n) = cN i s' m' := by
        by_cases hz : c * 2 ^ D - d = 0
        · rw [if_pos hz] at core
          exact ⟨false, 0, Nat.zero_le _, by rw [if_pos hz], core⟩
        · rw [if_neg hz] at core
          exact ⟨s, _, b2 (by omega), by rw [if_neg hz], core⟩
      have ht := bool_ne hst
      subst ht
      cases s
      · rw [if_pos (nn1.mpr rfl), if_neg (fun z => by have := nn2.mp z; simp at this), main]; exact goal
      · rw [if_neg (fun z => by have := nn1.mp z; simp at this), if_pos (nn2.mpr rfl), main]; exact goal
theorem x_sum {i : Nat} (h : i < 2) {s t : Bool} {m n : Nat} (hm : m ≤ nInf i) (hn : n ≤ nInf i) (hop : ¬ (m = nInf i ∧ n = nInf i ∧ ¬ s = t)) :
    ∃ s' m', m' ≤ nInf i ∧ fX0_sum i (lN (kN i s m)) (lN (kN i t n)) = lN (kN i s' m') ∧ FP.Core.add (fmI i) (cN i s m) (cN i t n) = cN i s' m' := by
  have hB := nB_facts h
  unfold fX0_sum
  rw [n_size h (show m < 2 ^ nB i by omega), n_size h (show n < 2 ^ nB i by omega)]
  have p : lN n ≤ lN m ↔ n ≤ m := jN_le (by omega) (by omega)
  by_cases c : n ≤ m
  · rw [if_pos (p.mpr c)]
    exact x_sumL h hm c hop
  · rw [if_neg (fun z => c (p.mp z)), add_comm]
    exact x_sumL h hn (by omega) (fun z => hop ⟨z.2.1, z.1, fun w => z.2.2 w.symm⟩)
