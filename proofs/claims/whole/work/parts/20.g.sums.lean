/-! the sum of two sizes -/
theorem sd_le {x d : Nat} (hd : 1 ≤ d) : sdN x d ≤ x / d + 1 := by unfold sdN; split <;> omega
theorem sd_one (x : Nat) : sdN x 1 = x := by unfold sdN; rw [if_pos (Nat.mod_one x), Nat.div_one]
theorem sd_half {d : Nat} : sdN (8 * d) 2 = 4 * d := by unfold sdN; rw [if_pos (by omega)]; omega
theorem sd_quarter {T d D : Nat} (hd : d < 2 * T) (hD : 2 ≤ D) : sdN (8 * d) (2 ^ D) ≤ 4 * T - 1 := by
  have h1 : 2 ^ 2 ≤ 2 ^ D := Nat.pow_le_pow_right (by decide) hD
  have h2 : 8 * d / 2 ^ D ≤ 8 * d / 4 := Nat.div_le_div_left h1 (by decide)
  have := sd_le (x := 8 * d) (d := 2 ^ D) (by omega)
  omega
theorem sum_same {F bi c d D k : Nat} (hF : F ≤ 52) (hb : 1 ≤ bi) (hc : c < 2 * 2 ^ F) (hd : d < 2 * 2 ^ F) (hD : D = 0 ∨ 2 ^ F ≤ c) (hA : 0 < c * 2 ^ D + d) :
    fromN F bi (8 * c + sdN (8 * d) (2 ^ D)) (k + D + 1) = min ((2 * bi + 1) * 2 ^ F) (((c * 2 ^ D + d).log2 + k - F) * 2 ^ F + FP.Core.nearest ((c * 2 ^ D + d) * 2 ^ (k - ((c * 2 ^ D + d).log2 + k - F))) (2 ^ (((c * 2 ^ D + d).log2 + k - F) - k))) := by
  have hp := Nat.two_pow_pos D
  have hst : St (8 * (c * 2 ^ D + d)) (2 ^ D) (8 * c + sdN (8 * d) (2 ^ D)) := by
    have := st_add (st_sd (8 * d) (2 ^ D) hp) (4 * c)
    rw [show 2 * (4 * c) = 8 * c by omega, Nat.mul_assoc, ← Nat.mul_add] at this
    exact this
  refine fromN_spec hF hb hA rfl hst ?_ ?_
  · rcases Nat.eq_zero_or_pos D with h | h
    · rw [h, Nat.pow_zero, sd_one]; omega
    · have h1 : 2 ^ 1 ≤ 2 ^ D := Nat.pow_le_pow_right (by decide) h
      have h2 : 8 * d / 2 ^ D ≤ 8 * d / 2 := Nat.div_le_div_left h1 (by decide)
      have := sd_le (x := 8 * d) (d := 2 ^ D) (by omega)
      omega
  · rcases hD with h | h
    · left; rw [h, Nat.pow_zero, sd_one]; omega
    · right; omega
theorem sum_diff {F bi c d D k : Nat} (hF : F ≤ 52) (hb : 1 ≤ bi) (hc : c < 2 * 2 ^ F) (hd : d < 2 * 2 ^ F) (hD : D = 0 ∨ 2 ^ F ≤ c) (hcd : d ≤ c * 2 ^ D) :
    sdN (8 * d) (2 ^ D) ≤ 8 * c ∧ St (8 * (c * 2 ^ D - d)) (2 ^ D) (8 * c - sdN (8 * d) (2 ^ D)) ∧ (0 < c * 2 ^ D - d → fromN F bi (8 * c - sdN (8 * d) (2 ^ D)) (k + D + 1) = min ((2 * bi + 1) * 2 ^ F) (((c * 2 ^ D - d).log2 + k - F) * 2 ^ F + FP.Core.nearest ((c * 2 ^ D - d) * 2 ^ (k - ((c * 2 ^ D - d).log2 + k - F))) (2 ^ (((c * 2 ^ D - d).log2 + k - F) - k)))) := by
  have hp := Nat.two_pow_pos D
  have hle : sdN (8 * d) (2 ^ D) ≤ 8 * c := by
    rcases (show D = 0 ∨ D = 1 ∨ 2 ≤ D by omega) with h | h | h
    · rw [h, Nat.pow_zero, sd_one]; rw [h] at hcd; omega
    · rw [h, Nat.pow_one, sd_half]; rw [h] at hcd; omega
    · have := sd_quarter hd h
      rcases hD with h2 | h2 <;> omega
  have hst : St (8 * (c * 2 ^ D - d)) (2 ^ D) (8 * c - sdN (8 * d) (2 ^ D)) := by
    have := st_sub (m := 4 * c) (st_sd (8 * d) (2 ^ D) hp) (by rw [show 2 * (4 * c) = 8 * c by omega, Nat.mul_assoc]; omega) (by omega)
    rw [show 2 * (4 * c) = 8 * c by omega, Nat.mul_assoc, ← Nat.mul_sub] at this
    exact this
  refine ⟨hle, hst, fun hA => fromN_spec hF hb hA rfl hst (by omega) ?_⟩
  rcases (show D = 0 ∨ D = 1 ∨ 2 ≤ D by omega) with h | h | h
  · left; rw [h, Nat.pow_zero, sd_one]; omega
  · left; rw [h, Nat.pow_one, sd_half]; rw [h] at hcd; omega
  · right
    have := sd_quarter hd h
    rcases hD with h2 | h2 <;> omega
theorem sig_lt {F m : Nat} : sigN F m < 2 * 2 ^ F := by
  have := Nat.mod_lt m (Nat.two_pow_pos F)
  unfold sigN; split <;> omega
theorem sig_e (F m : Nat) : sigN F m + (expN F m - 1) * 2 ^ F = m ∧ 1 ≤ expN F m ∧ (1 < expN F m → 2 ^ F ≤ sigN F m) := by
  have hp := Nat.two_pow_pos F
  have h0 := Nat.div_add_mod m (2 ^ F)
  unfold sigN expN
  split
  · exact ⟨by omega, by omega, by omega⟩
  · have h6 : 1 ≤ m / 2 ^ F := (Nat.le_div_iff_mul_le hp).mpr (by omega)
    have h7 := Nat.sub_mul (m / 2 ^ F) 1 (2 ^ F)
    have h8 := Nat.mul_le_mul_right (2 ^ F) h6
    rw [Nat.mul_comm] at h0
    refine ⟨by omega, by omega, by omega⟩
/-- the smaller size's exponent is no greater, and its significand no greater, where they are measured alike -/
theorem sig_mono {F m n : Nat} (h : n ≤ m) : expN F n ≤ expN F m ∧ (expN F m - expN F n = 0 ∨ 2 ^ F ≤ sigN F m) ∧ sigN F n ≤ sigN F m * 2 ^ (expN F m - expN F n) := by
  have hp := Nat.two_pow_pos F
  obtain ⟨a1, a2, a3⟩ := sig_e F m
  obtain ⟨b1, b2, b3⟩ := sig_e F n
  have hl := sig_lt (F := F) (m := n)
  have hl2 := sig_lt (F := F) (m := m)
  have hle : expN F n ≤ expN F m := by
    apply Nat.le_of_not_lt; intro z
    have h1 := b3 (by omega)
    have h2 := Nat.mul_le_mul_right (2 ^ F) (show expN F m - 1 + 1 ≤ expN F n - 1 by omega)
    have h3 := Nat.add_mul (expN F m - 1) 1 (2 ^ F)
    omega
  refine ⟨hle, ?_, ?_⟩
  · rcases Nat.eq_zero_or_pos (expN F m - expN F n) with z | z
    · exact Or.inl z
    · exact Or.inr (a3 (by omega))
  · rcases Nat.eq_zero_or_pos (expN F m - expN F n) with z | z
    · rw [z, Nat.pow_zero, Nat.mul_one]
      have : expN F m = expN F n := by omega
      rw [this] at a1
      omega
    · have h1 := a3 (by omega)
      have h2 : 2 ^ 1 ≤ 2 ^ (expN F m - expN F n) := Nat.pow_le_pow_right (by decide) z
      have h3 := Nat.mul_le_mul h1 h2
      omega
