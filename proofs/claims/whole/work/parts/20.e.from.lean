/-! the size that a significand with spare bits has: as natural numbers -/
def sfN : Nat → Nat → Nat → Nat → Nat × Nat
  | 0, _, S, e => (S, e)
  | n + 1, top, S, e => if top ≤ S then (S, e) else if e ≤ 1 then (S, e) else sfN n top (S * 2) (e - 1)
theorem sfN_spec (top : Nat) : ∀ (n S e : Nat), 1 ≤ e → top ≤ S * 2 ^ n → ∃ j, sfN n top S e = (S * 2 ^ j, e - j) ∧ j + 1 ≤ e ∧ (top ≤ S * 2 ^ j ∨ e - j = 1) ∧ (j = 0 ∨ S * 2 ^ j < 2 * top) := by
  intro n
  induction n with
  | zero =>
    intro S e he h
    exact ⟨0, by simp [sfN], by omega, Or.inl (by simpa using h), Or.inl rfl⟩
  | succ n ih =>
    intro S e he h
    unfold sfN
    by_cases h1 : top ≤ S
    · rw [if_pos h1]
      exact ⟨0, by simp, by omega, Or.inl (by simpa using h1), Or.inl rfl⟩
    · rw [if_neg h1]
      by_cases h2 : e ≤ 1
      · rw [if_pos h2]
        exact ⟨0, by simp, by omega, Or.inr (by omega), Or.inl rfl⟩
      · rw [if_neg h2]
        obtain ⟨j, h3, h4, h5, h6⟩ := ih (S * 2) (e - 1) (by omega) (by rw [Nat.mul_assoc, ← Nat.pow_succ']; exact h)
        have e1 : S * 2 * 2 ^ j = S * 2 ^ (j + 1) := by rw [Nat.mul_assoc, ← Nat.pow_succ']
        rw [e1] at h3 h5 h6
        refine ⟨j + 1, by rw [h3]; congr 1; omega, by omega, ?_, Or.inr ?_⟩
        · rcases h5 with h5 | h5
          · exact Or.inl h5
          · exact Or.inr (by omega)
        · rcases h6 with h6 | h6
          · subst h6; simp; omega
          · exact h6
def fromN (F bi S e : Nat) : Nat :=
  if S < 16 * 2 ^ F then
    if (sfN 64 (8 * 2 ^ F) S e).2 ≤ 2 * bi then ((sfN 64 (8 * 2 ^ F) S e).2 - 1) * 2 ^ F + FP.Core.nearest (sfN 64 (8 * 2 ^ F) S e).1 8 else (2 * bi + 1) * 2 ^ F
  else
    if (sfN 64 (8 * 2 ^ F) (sdN S 2) (e + 1)).2 ≤ 2 * bi then ((sfN 64 (8 * 2 ^ F) (sdN S 2) (e + 1)).2 - 1) * 2 ^ F + FP.Core.nearest (sfN 64 (8 * 2 ^ F) (sdN S 2) (e + 1)).1 8 else (2 * bi + 1) * 2 ^ F
theorem cq_bounds {F A k q : Nat} (hA : 0 < A) (hq : q = A.log2 + k - F) : (¬ q = 0 → 2 ^ F ≤ FP.Core.nearest (A * 2 ^ (k - q)) (2 ^ (q - k))) ∧ FP.Core.nearest (A * 2 ^ (k - q)) (2 ^ (q - k)) ≤ 2 * 2 ^ F := by
  have h2 := (Nat.log2_eq_iff (by omega : A ≠ 0)).mp rfl
  constructor
  · intro hq0
    refine nr_ge (Nat.two_pow_pos _) ?_
    rw [← Nat.pow_add]
    refine Nat.le_trans ?_ (Nat.mul_le_mul_right _ h2.1)
    rw [← Nat.pow_add]
    exact Nat.pow_le_pow_right (by decide) (by omega)
  · refine nr_le (Nat.two_pow_pos _) ?_
    rw [← Nat.pow_succ', ← Nat.pow_add]
    refine Nat.le_trans (Nat.mul_le_mul_right _ (Nat.le_of_lt h2.2)) ?_
    rw [← Nat.pow_add]
    exact Nat.pow_le_pow_right (by decide) (by omega)
theorem fin_min {T bi pl c : Nat} (h1 : 1 ≤ pl) (hb : 1 ≤ bi) (hc1 : ¬ pl - 1 = 0 → T ≤ c) (hc2 : c ≤ 2 * T) : (if pl ≤ 2 * bi then (pl - 1) * T + c else (2 * bi + 1) * T) = min ((2 * bi + 1) * T) ((pl - 1) * T + c) := by
  by_cases h : pl ≤ 2 * bi
  · rw [if_pos h, Nat.min_eq_right]
    have := Nat.mul_le_mul_right T (show pl - 1 + 2 ≤ 2 * bi + 1 by omega)
    have := Nat.add_mul (pl - 1) 2 T
    omega
  · rw [if_neg h, Nat.min_eq_left]
    have := Nat.mul_le_mul_right T (show 2 * bi + 1 ≤ pl - 1 + 1 by omega)
    have := Nat.add_mul (pl - 1) 1 T
    have := hc1 (by omega)
    omega
theorem lg_of {A a : Nat} (h1 : 2 ^ a ≤ A) (h2 : A < 2 ^ (a + 1)) : A.log2 = a := (Nat.log2_eq_iff (by have := Nat.two_pow_pos a; omega)).mpr ⟨h1, h2⟩
theorem fromN_spec {F bi A k D S e : Nat} (hF : F ≤ 52) (hb : 1 ≤ bi) (hA : 0 < A) (he : e = k + D + 1) (hst : St (8 * A) (2 ^ D) S) (hS : S < 32 * 2 ^ F) (hx : S * 2 ^ D = 8 * A ∨ 4 * 2 ^ F ≤ S) :
    fromN F bi S e = min ((2 * bi + 1) * 2 ^ F) ((A.log2 + k - F) * 2 ^ F + FP.Core.nearest (A * 2 ^ (k - (A.log2 + k - F))) (2 ^ ((A.log2 + k - F) - k))) := by
  obtain ⟨T, hT⟩ : ∃ T, T = 2 ^ F := ⟨_, rfl⟩
  have hT0 : 0 < T := by rw [hT]; exact Nat.two_pow_pos F
  have hd := Nat.two_pow_pos D
  obtain ⟨q, hq⟩ : ∃ q, q = A.log2 + k - F := ⟨_, rfl⟩
  obtain ⟨hc1, hc2⟩ := cq_bounds (F := F) (k := k) hA hq
  have hS0 : 0 < S := by
    rcases hx with h | h
    · apply Nat.pos_of_ne_zero; intro z; rw [z] at h; omega
    · omega
  unfold fromN
  rw [← hq]
  by_cases hcar : S < 16 * 2 ^ F
  · rw [if_pos hcar]
    have htop : 8 * 2 ^ F ≤ S * 2 ^ 64 := by
      have : 8 * 2 ^ F ≤ 2 ^ 64 := by
        have : 2 ^ F ≤ 2 ^ 52 := Nat.pow_le_pow_right (by decide) hF
        omega
      exact Nat.le_trans this (Nat.le_mul_of_pos_left _ hS0)
    obtain ⟨j, h3, h4, h5, h6⟩ := sfN_spec (8 * 2 ^ F) 64 S e (by omega) htop
    rw [h3]
    dsimp only
    have hj16 : S * 2 ^ j < 16 * 2 ^ F := by
      rcases h6 with h6 | h6
      · rw [h6]; simpa using hcar
      · omega
    have hj1 : S * 2 ^ D = 8 * A ∨ (j ≤ 1 ∧ 1 ≤ D) := by
      rcases hst with h | ⟨ho, g1, g2⟩
      · exact Or.inl h
      · rcases hx with h | h
        · exact Or.inl h
        · right
          constructor
          · apply Classical.byContradiction
            intro z
            have : 2 ^ 2 ≤ 2 ^ j := Nat.pow_le_pow_right (by decide) (by omega)
            have : S * 2 ^ 2 ≤ S * 2 ^ j := Nat.mul_le_mul_left S this
            omega
          · apply Classical.byContradiction
            intro z
            have : D = 0 := by omega
            subst this
            simp at g1 g2
            omega
    have hthr : ∀ c : Nat, 4 * c ≤ S * 2 ^ j ↔ 4 * c * 2 ^ D ≤ 8 * A * 2 ^ j := by
      intro c
      rcases hj1 with h | ⟨h, -⟩
      · rw [← h, Nat.mul_right_comm S]
        exact (Nat.mul_le_mul_right_iff hd).symm
      · rcases (show j = 0 ∨ j = 1 by omega) with rfl | rfl
        · have := st_ge (E := 2 * c) hst hd
          rw [← Nat.mul_assoc] at this
          simpa using this
        · have := st_ge (E := c) hst hd
          constructor
          · intro z
            have z1 := this.mp (by omega)
            have : 4 * c * 2 ^ D = 2 * (2 * c * 2 ^ D) := by rw [← Nat.mul_assoc, ← Nat.mul_assoc]
            omega
          · intro z
            have e9 : 4 * c * 2 ^ D = 2 * (2 * c * 2 ^ D) := by rw [← Nat.mul_assoc, ← Nat.mul_assoc]
            have z1 := this.mpr (by omega)
            omega
    have h8 := hthr (2 * 2 ^ F)
    have h16 := hthr (4 * 2 ^ F)
    have e8 : 4 * (2 * 2 ^ F) * 2 ^ D = 8 * 2 ^ (F + D) := by rw [Nat.pow_add, ← Nat.mul_assoc, ← Nat.mul_assoc]
    have e16 : 4 * (4 * 2 ^ F) * 2 ^ D = 8 * 2 ^ (F + D + 1) := by rw [show 4 * (4 * 2 ^ F) = 16 * 2 ^ F by omega, Nat.mul_assoc, ← Nat.pow_add, Nat.pow_succ]; omega
    have eA : 8 * A * 2 ^ j = 8 * (A * 2 ^ j) := Nat.mul_assoc _ _ _
    rw [e8, eA] at h8
    rw [e16, eA] at h16
    have hlg := lg_mul A j hA
    have hAj : A * 2 ^ j < 2 ^ (F + D + 1) := by
      apply Nat.lt_of_not_le
      intro z
      have := h16.mpr (by omega)
      omega
    have hqj : q = k + D - j := by
      by_cases hh : 8 * 2 ^ F ≤ S * 2 ^ j
      · have := h8.mp (by omega)
        have := lg_of (A := A * 2 ^ j) (a := F + D) (by omega) hAj
        omega
      · have hjk : j = k + D := by omega
        have h9 : A * 2 ^ j < 2 ^ (F + D) := by
          apply Nat.lt_of_not_le
          intro z
          have := h8.mpr (by omega)
          omega
        have := (Nat.log2_lt (Nat.mul_ne_zero (by omega) (Nat.ne_of_gt (Nat.two_pow_pos j)))).mpr h9
        omega
    have hne : FP.Core.nearest (S * 2 ^ j) 8 = FP.Core.nearest (A * 2 ^ (k - q)) (2 ^ (q - k)) := by
      have a1 : k - q = j - D := by omega
      have a2 : q - k = D - j := by omega
      rw [a1, a2]
      rcases hj1 with h | ⟨h, hD1⟩
      · rcases Nat.lt_or_ge j D with hjD | hjD
        · rw [show j - D = 0 by omega, Nat.pow_zero, Nat.mul_one]
          have s1 := nr_scale (S * 2 ^ j) 8 (2 ^ (D - j)) (Nat.two_pow_pos _)
          have s2 := nr_scale A (2 ^ (D - j)) 8 (by decide)
          rw [← s1, ← s2, Nat.mul_assoc, ← Nat.pow_add, show j + (D - j) = D by omega, h, Nat.mul_comm 8 A, Nat.mul_comm 8]
        · rw [show D - j = 0 by omega, Nat.pow_zero]
          have s2 := nr_scale (A * 2 ^ (j - D)) 1 8 (by decide)
          rw [← s2]
          congr 1
          have : S * 2 ^ j = S * 2 ^ D * 2 ^ (j - D) := by rw [Nat.mul_assoc, ← Nat.pow_add]; congr 2; omega
          rw [this, h]
          rw [Nat.mul_comm 8 A, Nat.mul_right_comm]
      · rw [show j - D = 0 by omega, Nat.pow_zero, Nat.mul_one]
        have s2 := nr_scale A (2 ^ (D - j)) 8 (by decide)
        rw [← s2]
        have s3 := st_nearest hst hd (1 - j)
        have b1 : 2 ^ (D - j) * 8 = 2 ^ (1 - j + 2) * 2 ^ D := by
          rw [show 8 = 2 ^ 3 from rfl, ← Nat.pow_add, ← Nat.pow_add]; congr 1; omega
        rw [b1, Nat.mul_comm A 8, s3]
        have s4 := nr_scale S (2 ^ (1 - j + 2)) (2 ^ j) (Nat.two_pow_pos _)
        rw [← s4, ← Nat.pow_add, show 1 - j + 2 + j = 3 by omega]
    rw [hne]
    have hpl : e - j - 1 = q := by omega
    have := fin_min (T := 2 ^ F) (bi := bi) (pl := e - j) (c := FP.Core.nearest (A * 2 ^ (k - q)) (2 ^ (q - k))) (by omega) hb (by rw [hpl]; exact hc1) hc2
    rw [this, hpl]
  · rw [if_neg hcar]
    have h16 : 16 * 2 ^ F ≤ S := by omega
    have st2 := st_two hst hd
    have hS8 : 8 * 2 ^ F ≤ sdN S 2 := by
      have : 8 * 2 ^ F ≤ S / 2 := by omega
      unfold sdN
      split <;> omega
    have hsf : sfN 64 (8 * 2 ^ F) (sdN S 2) (e + 1) = (sdN S 2, e + 1) := by
      show (if 8 * 2 ^ F ≤ sdN S 2 then (sdN S 2, e + 1) else _) = _
      rw [if_pos hS8]
    rw [hsf]
    dsimp only
    have t1 := st_ge (E := 8 * 2 ^ F) hst hd
    have t2 := st_ge (E := 16 * 2 ^ F) hst hd
    have e1 : 2 * (8 * 2 ^ F) * 2 ^ D = 8 * 2 ^ (F + D + 1) := by rw [show 2 * (8 * 2 ^ F) = 16 * 2 ^ F by omega, Nat.mul_assoc, ← Nat.pow_add, Nat.pow_succ]; omega
    have e2 : 2 * (16 * 2 ^ F) * 2 ^ D = 8 * 2 ^ (F + D + 1 + 1) := by rw [show 2 * (16 * 2 ^ F) = 32 * 2 ^ F by omega, Nat.mul_assoc, ← Nat.pow_add, Nat.pow_succ, Nat.pow_succ]; omega
    rw [e1] at t1
    rw [e2] at t2
    have hl : A.log2 = F + D + 1 := by
      refine lg_of ?_ ?_
      · have := t1.mp (by omega); omega
      · apply Nat.lt_of_not_le; intro z
        have := t2.mpr (by omega)
        omega
    have hqj : q = k + D + 1 := by omega
    have hne : FP.Core.nearest (sdN S 2) 8 = FP.Core.nearest (A * 2 ^ (k - q)) (2 ^ (q - k)) := by
      rw [show k - q = 0 by omega, show q - k = D + 1 by omega, Nat.pow_zero, Nat.mul_one]
      have s2 := nr_scale A (2 ^ (D + 1)) 8 (by decide)
      rw [← s2]
      have s3 := st_nearest st2 (by omega) 1
      have b1 : 2 ^ (D + 1) * 8 = 2 ^ (1 + 2) * (2 * 2 ^ D) := by rw [Nat.pow_succ]; omega
      rw [b1, Nat.mul_comm A 8, s3]
    rw [hne]
    have hpl : e + 1 - 1 = q := by omega
    have := fin_min (T := 2 ^ F) (bi := bi) (pl := e + 1) (c := FP.Core.nearest (A * 2 ^ (k - q)) (2 ^ (q - k))) (by omega) hb (by rw [hpl]; exact hc1) hc2
    rw [this, hpl]
