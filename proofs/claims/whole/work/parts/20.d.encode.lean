/-! the encoding of a rounded number -/
theorem lg_mul (A k : Nat) (hA : 0 < A) : (A * 2 ^ k).log2 = A.log2 + k := by
  have h0 : A ≠ 0 := by omega
  have hk := Nat.two_pow_pos k
  have h1 : A * 2 ^ k ≠ 0 := Nat.mul_ne_zero h0 (by omega)
  rw [Nat.log2_eq_iff h1]
  have h2 := (Nat.log2_eq_iff h0).mp rfl
  constructor
  · rw [Nat.pow_add]; exact Nat.mul_le_mul_right _ h2.1
  · rw [show A.log2 + k + 1 = (A.log2 + 1) + k by omega, Nat.pow_add]
    exact Nat.mul_lt_mul_of_pos_right h2.2 hk
theorem cr_leading {A : Nat} (hA : 0 < A) : FP.Core.leading A 1 = (A.log2 : Int) := by
  unfold FP.Core.leading
  have h1 : (Nat.log2 1 : Int) = 0 := by decide
  simp only [h1, Int.sub_zero]
  rw [if_pos]
  have h2 : (-(A.log2 : Int)).toNat = 0 := by omega
  rw [h2, Int.toNat_natCast, Nat.one_mul, Nat.pow_zero, Nat.mul_one]
  exact ((Nat.log2_eq_iff (by omega)).mp rfl).1
theorem cr_quantum (f : FP.Core.Fmt) (hp : 1 ≤ f.p) {A : Nat} (hA : 0 < A) (k : Nat) : FP.Core.quantum f A 1 (f.qmin + k) = f.qmin + ((A.log2 + k - (f.p - 1) : Nat) : Int) := by
  unfold FP.Core.quantum
  rw [cr_leading hA]
  omega
theorem cr_two {f : FP.Core.Fmt} (hp : 1 ≤ f.p) : 2 ^ f.p = 2 * f.tails := by
  unfold FP.Core.Fmt.tails
  rw [← Nat.pow_succ']
  congr 1; omega
theorem cr_exps {f : FP.Core.Fmt} (hw : 1 ≤ f.w) : f.exps = 2 * f.emax + 2 := by
  unfold FP.Core.Fmt.exps FP.Core.Fmt.emax
  obtain ⟨w, hw2⟩ : ∃ w, f.w = w + 1 := ⟨f.w - 1, by omega⟩
  rw [hw2, Nat.add_sub_cancel, Nat.pow_succ]
  have := Nat.two_pow_pos w
  omega
theorem cr_emax {f : FP.Core.Fmt} (hw : 2 ≤ f.w) : 1 ≤ f.emax := by
  unfold FP.Core.Fmt.emax
  have : 2 ^ 1 ≤ 2 ^ (f.w - 1) := Nat.pow_le_pow_right (by decide) (by omega)
  omega
/-- how a rounded number of format f is encoded -/
theorem cr_encode (f : FP.Core.Fmt) (hp : 1 ≤ f.p) (hw : 2 ≤ f.w) (s : Bool) {A : Nat} (hA : 0 < A) (k q : Nat) (hq : q = A.log2 + k - (f.p - 1)) :
    FP.Core.encode f (FP.Core.roundRatio f s A 1 (f.qmin + k)) = s.toNat * (f.exps * f.tails) + min ((f.exps - 1) * f.tails) (q * f.tails + FP.Core.nearest (A * 2 ^ (k - q)) (2 ^ (q - k))) ∧ f.tails * (if q = 0 then 0 else 1) ≤ FP.Core.nearest (A * 2 ^ (k - q)) (2 ^ (q - k)) ∧ FP.Core.nearest (A * 2 ^ (k - q)) (2 ^ (q - k)) ≤ 2 * f.tails := by
  have hT : 0 < f.tails := Nat.two_pow_pos _
  have hE := cr_exps (f := f) (by omega)
  have hE1 := cr_emax hw
  have h2 := (Nat.log2_eq_iff (by omega : A ≠ 0)).mp rfl
  have hc1 : f.tails * (if q = 0 then 0 else 1) ≤ FP.Core.nearest (A * 2 ^ (k - q)) (2 ^ (q - k)) := by
    split
    · simp
    · rename_i hq0
      refine nr_ge (Nat.two_pow_pos _) ?_
      rw [Nat.mul_one]
      unfold FP.Core.Fmt.tails
      rw [← Nat.pow_add]
      refine Nat.le_trans ?_ (Nat.mul_le_mul_right _ h2.1)
      rw [← Nat.pow_add]
      exact Nat.pow_le_pow_right (by decide) (by omega)
  have hc2 : FP.Core.nearest (A * 2 ^ (k - q)) (2 ^ (q - k)) ≤ 2 * f.tails := by
    refine nr_le (Nat.two_pow_pos _) ?_
    rw [← cr_two hp, ← Nat.pow_add]
    refine Nat.le_trans (Nat.mul_le_mul_right _ (Nat.le_of_lt h2.2)) ?_
    rw [← Nat.pow_add]
    exact Nat.pow_le_pow_right (by decide) (by omega)
  refine ⟨?_, hc1, hc2⟩
  unfold FP.Core.roundRatio
  rw [if_neg (by omega), cr_quantum f hp hA k, ← hq]
  unfold FP.Core.roundAt FP.Core.unitsNum FP.Core.unitsDen
  have e1 : (f.qmin + (k : Int) - (f.qmin + (q : Int))).toNat = k - q := by omega
  have e2 : (f.qmin + (q : Int) - (f.qmin + (k : Int))).toNat = q - k := by omega
  rw [e1, e2, Nat.one_mul]
  generalize FP.Core.nearest (A * 2 ^ (k - q)) (2 ^ (q - k)) = c at *
  have hqm : f.qmax = f.qmin + (2 * (f.emax : Int) - 1) := by unfold FP.Core.Fmt.qmax FP.Core.Fmt.qmin; omega
  have hpT := cr_two hp
  have e3 : (f.qmin + (q : Int) - f.qmin).toNat = q := by omega
  have e4 : (f.qmin + (q : Int) + 1 - f.qmin).toNat = q + 1 := by omega
  have bigger : ∀ a b : Nat, a ≤ b → a * f.tails ≤ b * f.tails := fun a b h => Nat.mul_le_mul_right _ h
  have hs : ∀ a : Nat, (s.toNat * f.exps + a) * f.tails = s.toNat * (f.exps * f.tails) + a * f.tails := fun a => by rw [Nat.add_mul, Nat.mul_assoc]
  have i1 : (f.exps - 1) * f.tails = (2 * f.emax + 1) * f.tails := by congr 1; omega
  unfold FP.Core.settle
  by_cases h3 : c < 2 ^ f.p
  · rw [if_pos h3]
    unfold FP.Core.bound
    by_cases h4 : f.qmin + (q : Int) ≤ f.qmax
    · rw [if_pos h4]
      unfold FP.Core.encode
      simp only []
      by_cases h5 : c < f.tails
      · have hq0 : q = 0 := by
          apply Classical.byContradiction; intro z; rw [if_neg z] at hc1; omega
        rw [if_pos h5]
        unfold FP.Core.assemble
        rw [hs, hq0, Nat.zero_mul, Nat.min_eq_right]
        · omega
        · have := bigger 1 (2 * f.emax + 1) (by omega); omega
      · rw [if_neg h5, e3]
        unfold FP.Core.assemble
        rw [hs, Nat.min_eq_right]
        · have := Nat.add_mul q 1 f.tails; omega
        · have := bigger (q + 2) (2 * f.emax + 1) (by omega)
          have := Nat.add_mul q 2 f.tails
          omega
    · rw [if_neg h4]
      unfold FP.Core.encode FP.Core.assemble
      simp only []
      rw [hs, Nat.min_eq_left]
      · omega
      · rw [if_neg (by omega)] at hc1
        have := bigger (2 * f.emax + 1) (q + 1) (by omega)
        have := Nat.add_mul q 1 f.tails
        omega
  · rw [if_neg h3]
    have hc : c = 2 * f.tails := by omega
    unfold FP.Core.bound
    by_cases h4 : f.qmin + (q : Int) + 1 ≤ f.qmax
    · rw [if_pos h4]
      unfold FP.Core.encode
      simp only []
      rw [if_neg (by omega), e4]
      unfold FP.Core.assemble
      have a1 := Nat.add_mul q 2 f.tails
      have a2 : (q + 1 + 1) * f.tails = q * f.tails + 2 * f.tails := a1
      rw [hs, Nat.min_eq_right]
      · omega
      · have := bigger (q + 2) (2 * f.emax + 1) (by omega)
        omega
    · rw [if_neg h4]
      unfold FP.Core.encode FP.Core.assemble
      simp only []
      have a1 := Nat.add_mul q 2 f.tails
      rw [hs, Nat.min_eq_left]
      · omega
      · have := bigger (2 * f.emax + 1) (q + 2) (by omega)
        omega
