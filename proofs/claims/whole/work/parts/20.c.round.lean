/-! rounding of natural numbers; a number that stands, with a last bit for what was lost, for another -/
theorem nr_scale (A B k : Nat) (hk : 0 < k) : FP.Core.nearest (A * k) (B * k) = FP.Core.nearest A B := by
  unfold FP.Core.nearest
  rw [Nat.mul_mod_mul_right, Nat.mul_div_mul_right _ _ hk]
  have h1 : 2 * (A % B * k) < B * k ↔ 2 * (A % B) < B := by
    rw [← Nat.mul_assoc]; exact Nat.mul_lt_mul_right hk
  have h2 : B * k < 2 * (A % B * k) ↔ B < 2 * (A % B) := by
    rw [← Nat.mul_assoc]; exact Nat.mul_lt_mul_right hk
  simp only [h1, h2]
theorem nr_ge {A B M : Nat} (hB : 0 < B) (h : M * B ≤ A) : M ≤ FP.Core.nearest A B := by
  have h1 : M ≤ A / B := (Nat.le_div_iff_mul_le hB).mpr h
  unfold FP.Core.nearest
  split
  · exact h1
  · split <;> omega
theorem nr_le {A B M : Nat} (hB : 0 < B) (h : A ≤ M * B) : FP.Core.nearest A B ≤ M := by
  have h0 := Nat.div_add_mod A B
  have h1 : A / B ≤ M := by
    have := Nat.div_le_div_right (c := B) h
    rw [Nat.mul_div_cancel _ hB] at this
    exact this
  unfold FP.Core.nearest
  rcases Nat.lt_or_ge (A / B) M with h2 | h2
  · split
    · omega
    · split <;> omega
  · have h3 : A / B = M := by omega
    rw [h3, Nat.mul_comm] at h0
    have h4 : A % B = 0 := by omega
    rw [h4, if_pos (by omega)]
    omega
def St (X d S : Nat) : Prop := S * d = X ∨ (S % 2 = 1 ∧ S * d < X + d ∧ X < S * d + d)
theorem st_nearest {X d S : Nat} (h : St X d S) (hd : 0 < d) (t : Nat) : FP.Core.nearest X (2 ^ (t + 2) * d) = FP.Core.nearest S (2 ^ (t + 2)) := by
  rcases h with h | ⟨ho, h1, h2⟩
  · rw [← h]; exact nr_scale S _ d hd
  · obtain ⟨u, hu⟩ : ∃ u, u = 2 ^ t := ⟨_, rfl⟩
    have hu0 : 0 < u := by rw [hu]; exact Nat.two_pow_pos t
    have hp : 2 ^ (t + 2) = 4 * u := by rw [Nat.pow_add, hu]; omega
    rw [hp]
    obtain ⟨Q, r, hr, hS⟩ : ∃ Q r, r < 4 * u ∧ S = 4 * u * Q + r := ⟨S / (4 * u), S % (4 * u), Nat.mod_lt _ (by omega), (Nat.div_add_mod S (4 * u)).symm⟩
    have hro : r % 2 = 1 := by
      rw [hS] at ho
      have : 4 * u * Q + r = 2 * (2 * (u * Q)) + r := by
        rw [Nat.mul_assoc, show 4 * (u * Q) = 2 * (2 * (u * Q)) by omega]
      rw [this] at ho
      omega
    have e1 : S * d = 4 * u * d * Q + r * d := by
      rw [hS, Nat.add_mul, Nat.mul_right_comm]
    have g1 : r * d = (r - 1) * d + d := by
      rw [← Nat.succ_mul]; congr 1; omega
    have g2 : (r + 1) * d = r * d + d := Nat.succ_mul r d
    have g3 : (r + 1) * d ≤ 4 * u * d := Nat.mul_le_mul_right d (by omega)
    have hX : X = 4 * u * d * Q + (X - 4 * u * d * Q) := by omega
    generalize hρ : X - 4 * u * d * Q = ρ at hX
    have hρ1 : ρ < 4 * u * d := by omega
    have q1 : X / (4 * u * d) = Q := by
      rw [hX, Nat.mul_add_div (by omega), Nat.div_eq_of_lt hρ1, Nat.add_zero]
    have q2 : X % (4 * u * d) = ρ := by
      rw [hX, Nat.mul_add_mod, Nat.mod_eq_of_lt hρ1]
    have q3 : S / (4 * u) = Q := by
      rw [hS, Nat.mul_add_div (by omega), Nat.div_eq_of_lt hr, Nat.add_zero]
    have q4 : S % (4 * u) = r := by
      rw [hS, Nat.mul_add_mod, Nat.mod_eq_of_lt hr]
    unfold FP.Core.nearest
    rw [q1, q2, q3, q4]
    have f0 : 4 * u * d = 2 * (2 * u * d) := by rw [← Nat.mul_assoc, ← Nat.mul_assoc]
    rcases Nat.lt_or_ge r (2 * u) with hlt | hge
    · have f1 : (r + 1) * d ≤ 2 * u * d := Nat.mul_le_mul_right d (by omega)
      rw [if_pos (by omega), if_pos (by omega)]
    · have hge : 2 * u + 1 ≤ r := by omega
      have f1 : 2 * u * d ≤ (r - 1) * d := Nat.mul_le_mul_right d (by omega)
      rw [if_neg (by omega), if_pos (by omega), if_neg (by omega), if_pos (by omega)]
theorem st_ge {X d S E : Nat} (h : St X d S) (hd : 0 < d) : 2 * E ≤ S ↔ 2 * E * d ≤ X := by
  rcases h with h | ⟨ho, h1, h2⟩
  · rw [← h]
    exact (Nat.mul_le_mul_right_iff hd).symm
  · constructor
    · intro h
      have h3 : (2 * E + 1) * d ≤ S * d := Nat.mul_le_mul_right d (by omega)
      have h4 : (2 * E + 1) * d = 2 * E * d + d := Nat.succ_mul _ _
      omega
    · intro h
      apply Nat.le_of_not_lt
      intro h5
      have h3 : (S + 1) * d ≤ 2 * E * d := Nat.mul_le_mul_right d (by omega)
      have h4 : (S + 1) * d = S * d + d := Nat.succ_mul _ _
      omega
theorem st_add {y d S : Nat} (h : St y d S) (m : Nat) : St (2 * m * d + y) d (2 * m + S) := by
  rcases h with h | ⟨ho, h1, h2⟩
  · left; rw [Nat.add_mul, h]
  · right
    have := Nat.add_mul (2 * m) S d
    refine ⟨by omega, by omega, by omega⟩
theorem st_sub {y d S m : Nat} (h : St y d S) (hy : y ≤ 2 * m * d) (hS : S ≤ 2 * m) : St (2 * m * d - y) d (2 * m - S) := by
  have h3 : (2 * m - S) * d = 2 * m * d - S * d := Nat.sub_mul _ _ _
  have h4 : S * d ≤ 2 * m * d := Nat.mul_le_mul_right d hS
  rcases h with h | ⟨ho, h1, h2⟩
  · left; rw [h3, h]
  · right
    refine ⟨by omega, by omega, by omega⟩
/-- shifted down, the last bit set if a bit was lost -/
def sdN (x d : Nat) : Nat := if x % d = 0 then x / d else x / d + (1 - x / d % 2)
theorem st_sd (x d : Nat) (hd : 0 < d) : St x d (sdN x d) := by
  have h0 := Nat.div_add_mod x d
  have h1 := Nat.mod_lt x hd
  unfold sdN
  split
  · left
    rename_i h
    rw [h, Nat.mul_comm] at h0
    omega
  · right
    generalize x / d = q at *
    have hq : q % 2 = 0 ∨ q % 2 = 1 := by omega
    rcases hq with hq | hq
    · rw [hq]
      have : (q + (1 - 0)) * d = q * d + d := Nat.succ_mul q d
      rw [Nat.mul_comm] at h0
      refine ⟨by omega, by omega, by omega⟩
    · rw [hq]
      have : (q + (1 - 1)) * d = q * d := rfl
      rw [Nat.mul_comm] at h0
      refine ⟨by omega, by omega, by omega⟩
theorem st_two {X d S : Nat} (h : St X d S) (hd : 0 < d) : St X (2 * d) (sdN S 2) := by
  unfold sdN
  rcases h with h | ⟨ho, h1, h2⟩
  · split
    · left
      have : S / 2 * (2 * d) = S * d := by rw [← Nat.mul_assoc]; congr 1; omega
      rw [this, h]
    · right
      obtain ⟨k, hk⟩ : ∃ k, S = 2 * k + 1 := ⟨S / 2, by omega⟩
      have hk2 : S / 2 = k := by omega
      rw [hk2]
      have e1 : S * d = k * (2 * d) + d := by rw [hk, Nat.succ_mul, Nat.mul_comm 2 k, Nat.mul_assoc]
      rcases (show k % 2 = 0 ∨ k % 2 = 1 by omega) with hq | hq
      · rw [hq]
        have : (k + (1 - 0)) * (2 * d) = k * (2 * d) + 2 * d := Nat.succ_mul k _
        refine ⟨by omega, by omega, by omega⟩
      · rw [hq]
        have : (k + (1 - 1)) * (2 * d) = k * (2 * d) := rfl
        refine ⟨by omega, by omega, by omega⟩
  · rw [if_neg (by omega)]
    right
    obtain ⟨k, hk⟩ : ∃ k, S = 2 * k + 1 := ⟨S / 2, by omega⟩
    have hk2 : S / 2 = k := by omega
    rw [hk2]
    have e1 : S * d = k * (2 * d) + d := by rw [hk, Nat.succ_mul, Nat.mul_comm 2 k, Nat.mul_assoc]
    rcases (show k % 2 = 0 ∨ k % 2 = 1 by omega) with hq | hq
    · rw [hq]
      have : (k + (1 - 0)) * (2 * d) = k * (2 * d) + 2 * d := Nat.succ_mul k _
      refine ⟨by omega, by omega, by omega⟩
    · rw [hq]
      have : (k + (1 - 1)) * (2 * d) = k * (2 * d) := rfl
      refine ⟨by omega, by omega, by omega⟩
