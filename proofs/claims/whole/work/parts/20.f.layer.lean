/-! the sum of two numbers: from longs to natural numbers -/
def sigN (F m : Nat) : Nat := if m < 2 ^ F then m else 2 ^ F + m % 2 ^ F
def expN (F m : Nat) : Nat := if m < 2 ^ F then 1 else m / 2 ^ F
theorem or_one (n : Nat) : n ||| 1 = n + (1 - n % 2) := by
  have h := Nat.div_add_mod n 2
  obtain ⟨a, b, hb, hn⟩ : ∃ a b, b < 2 ∧ n = 2 ^ 1 * a + b := ⟨n / 2, n % 2, by omega, by omega⟩
  rw [hn, Nat.two_pow_add_eq_or_of_lt (by omega), Nat.or_assoc]
  rcases (show b = 0 ∨ b = 1 by omega) with rfl | rfl
  · rw [Nat.zero_or, ← Nat.two_pow_add_eq_or_of_lt (by omega), Nat.or_zero]; omega
  · rw [Nat.or_self, ← Nat.two_pow_add_eq_or_of_lt (by omega)]; omega
theorem x_sig {i : Nat} (h : i < 2) {m : Nat} (hm : m < 2 ^ nB i) : fX0_significandOf i (lN m) = lN (sigN (nF i) m) := by
  have h2 := (nB_facts h).2.1
  have h3 := (nF_facts h).1
  have hp := Nat.two_pow_pos (nF i)
  have e1 : lN (2 ^ nF i) - 1 = lN (2 ^ nF i - 1) := jN_sub (b := 1) hp
  unfold fX0_significandOf sigN
  rw [kHid_n h, e1, jN_and, Nat.and_two_pow_sub_one_eq_mod]
  by_cases h4 : m < 2 ^ nF i
  · rw [if_neg (by rw [jN_le (by omega) (by omega)]; omega), if_pos h4, Nat.mod_eq_of_lt h4]
  · rw [if_pos (by rw [jN_le (by omega) (by omega)]; omega), if_neg h4, jN_or, Nat.or_comm]
    have := Nat.two_pow_add_eq_or_of_lt (Nat.mod_lt m hp) 1
    rw [Nat.mul_one] at this
    rw [this]
theorem jN_i32 {n : Nat} : (lN n).toInt32 = nI n := by
  show (Int64.ofNat n).toInt32 = Int32.ofNat n
  rw [Int64.toInt32_ofNat']
theorem x_exp {i : Nat} (h : i < 2) {m : Nat} (hm : m < 2 ^ nB i) : fX0_exponentOf i (lN m) = nI (expN (nF i) m) := by
  have h2 := (nB_facts h).2.1
  have h3 := nF_facts h
  have hp := Nat.two_pow_pos (nF i)
  have h4 := (nB_facts h).2.2.2
  have hq : m / 2 ^ nF i < 2 * nBi i + 2 := by rw [Nat.div_lt_iff_lt_mul hp]; omega
  unfold fX0_exponentOf expN
  rw [kFrac_n h, jN_shr (by omega) (by omega), jN_i32]
  by_cases h5 : m < 2 ^ nF i
  · rw [if_pos h5, Nat.div_eq_of_lt h5, if_neg (by decide)]; rfl
  · rw [if_neg h5]
    have h6 : 1 ≤ m / 2 ^ nF i := (Nat.le_div_iff_mul_le hp).mpr (by omega)
    by_cases h7 : m / 2 ^ nF i = 1
    · rw [h7, if_neg (by decide)]; rfl
    · rw [if_pos]
      have : (1 : Int32) = nI 1 := rfl
      rw [this]
      exact nI_lt (by omega) (by omega)
theorem x_sd {x : Nat} (hx : x < 2 ^ 63) {D : Nat} (hD : D < 2 ^ 31) : fX0_shiftedDown (lN x) (nI D) = lN (sdN x (2 ^ D)) := by
  unfold fX0_shiftedDown sdN
  have h64 : (64 : Int32) = nI 64 := rfl
  have hp := Nat.two_pow_pos D
  by_cases h : D < 64
  · rw [if_pos (by rw [h64]; exact nI_lt h (by decide)), jN_shr hx h, jN_shl _ h]
    have h1 := Nat.div_add_mod x (2 ^ D)
    have h2 : x / 2 ^ D ≤ x := Nat.div_le_self _ _
    rw [Nat.mul_comm] at h1
    by_cases h3 : x % 2 ^ D = 0
    · rw [if_pos (by rw [jN_inj (by omega) (by omega)]; omega), if_pos h3]
    · rw [if_neg (by rw [jN_inj (by omega) (by omega)]; omega), if_neg h3]
      have h4 : (1 : Int64) = lN 1 := rfl
      rw [h4, jN_or, or_one]
  · rw [if_neg (by rw [h64]; exact nI_nlt (by omega) hD)]
    have h1 : 2 ^ 64 ≤ 2 ^ D := Nat.pow_le_pow_right (by decide) (by omega)
    rw [Nat.mod_eq_of_lt (by omega), Nat.div_eq_of_lt (by omega)]
    have h0 : (0 : Int64) = lN 0 := rfl
    by_cases h3 : x = 0
    · rw [if_pos (by rw [h3]; rfl), if_pos h3]; rfl
    · rw [if_neg (by rw [h0, jN_inj (by omega) (by omega)]; exact h3), if_neg h3]; rfl
theorem x_ro {S : Nat} (hS : S < 2 ^ 63) : fX0_roundedOff (lN S) = lN (FP.Core.nearest S 8) := by
  unfold fX0_roundedOff fX0_isRoundedUp FP.Core.nearest
  have h3 : (3 : Int32) = nI 3 := rfl
  have h7 : (7 : Int64) = lN (2 ^ 3 - 1) := rfl
  have h4 : (4 : Int64) = lN 4 := rfl
  have h1 : (1 : Int64) = lN (2 ^ 1 - 1) := rfl
  rw [h3, h7, jN_and, Nat.and_two_pow_sub_one_eq_mod, jN_shr hS (by decide), h4, h1, jN_and, Nat.and_two_pow_sub_one_eq_mod]
  have hm := Nat.mod_lt S (show 0 < 2 ^ 3 by decide)
  have hd : S / 2 ^ 3 ≤ S := Nat.div_le_self _ _
  have e8 : (2 : Nat) ^ 3 = 8 := rfl
  have hk := Nat.mod_lt (S / 2 ^ 3) (show 0 < 2 ^ 1 by decide)
  rw [e8] at *
  have e2 : (2 : Nat) ^ 1 = 2 := rfl
  rw [e2] at *
  have ea : lN (S / 8) + lN (2 - 1) = lN (S / 8 + 1) := jN_add _ _
  rw [ea]
  have p1 : (lN 4 < lN (S % 8)) ↔ 4 < S % 8 := jN_lt (by decide) (by omega)
  have p2 : (lN (S % 8) = lN 4) ↔ S % 8 = 4 := jN_inj (by omega) (by decide)
  have p3 : (lN (S / 8 % 2) = lN (2 - 1)) ↔ S / 8 % 2 = 1 := jN_inj (by omega) (by decide)
  by_cases c1 : 4 < S % 8
  · rw [if_pos (p1.mpr c1), if_neg (by decide), if_neg (by omega), if_pos (by omega)]
  · rw [if_neg (fun z => c1 (p1.mp z))]
    by_cases c2 : S % 8 = 4
    · rw [if_pos (p2.mpr c2)]
      by_cases c3 : S / 8 % 2 = 1
      · rw [if_pos (p3.mpr c3), if_neg (by decide), if_neg (by omega), if_neg (by omega), c3]
      · rw [if_neg (fun z => c3 (p3.mp z)), if_pos rfl, if_neg (by omega), if_neg (by omega), show S / 8 % 2 = 0 by omega, Nat.add_zero]
    · rw [if_neg (fun z => c2 (p2.mp z)), if_pos rfl, if_pos (by omega)]
theorem x_loop {top : Nat} (ht : top ≤ 2 ^ 55) : ∀ (n S e : Nat), S < 2 ^ 56 → 1 ≤ e → e < 2 ^ 31 → sfLoop n (lN top) (lN S) (nI e) = (lN (sfN n top S e).1, nI (sfN n top S e).2) := by
  intro n
  induction n with
  | zero => intro S e _ _ _; rfl
  | succ n ih =>
    intro S e hS he he2
    unfold sfLoop sfN
    have h1 : (1 : Int32) = nI 1 := rfl
    have p1 : (lN top ≤ lN S) ↔ top ≤ S := jN_le (by omega) (by omega)
    have p2 : (nI e ≤ 1) ↔ e ≤ 1 := by rw [h1]; exact nI_leI he2 (by decide)
    by_cases c1 : top ≤ S
    · rw [if_pos (p1.mpr c1), if_pos c1]
    · rw [if_neg (fun z => c1 (p1.mp z)), if_neg c1]
      by_cases c2 : e ≤ 1
      · rw [if_pos (p2.mpr c2), if_pos c2]
      · rw [if_neg (fun z => c2 (p2.mp z)), if_neg c2]
        have e1 : lN S <<< ((1 : Int32).toInt64 &&& 63) = lN (S * 2) := by rw [h1, jN_shl S (by decide)]
        have e2 : nI e + (-1) = nI (e - 1) := by
          obtain ⟨e', rfl⟩ : ∃ e', e = e' + 1 := ⟨e - 1, by omega⟩
          rw [Nat.add_sub_cancel, ← nI_pred e', Int32.sub_eq_add_neg]
        rw [e1, e2]
        exact ih (S * 2) (e - 1) (by omega) (by omega) (by omega)
theorem nI_two_mul (b : Nat) : (2 : Int32) * nI b = nI (2 * b) := pk_mul 2 b
theorem sfN_le (top : Nat) : ∀ (n S e : Nat), (sfN n top S e).2 ≤ e ∧ (1 ≤ e → 1 ≤ (sfN n top S e).2) ∧ (sfN n top S e).1 ≤ max S (2 * top) := by
  intro n
  induction n with
  | zero => intro S e; exact ⟨Nat.le_refl _, id, by show S ≤ _; omega⟩
  | succ n ih =>
    intro S e
    unfold sfN
    split
    · exact ⟨Nat.le_refl _, id, by show S ≤ _; omega⟩
    · split
      · exact ⟨Nat.le_refl _, id, by show S ≤ _; omega⟩
      · have := ih (S * 2) (e - 1)
        refine ⟨by omega, fun _ => this.2.1 (by omega), by omega⟩
theorem x_fin {i : Nat} (h : i < 2) {S e : Nat} (hS : S < 2 ^ 57) (he : 1 ≤ e) (he2 : e < 2 ^ 20) :
    (if nI e ≤ (2 : Int32) * kBias i then ((nI e).toInt64 - 1) <<< ((kFrac i).toInt64 &&& 63) + fX0_roundedOff (lN S) else kInf i) = lN (if e ≤ 2 * nBi i then (e - 1) * 2 ^ nF i + FP.Core.nearest S 8 else (2 * nBi i + 1) * 2 ^ nF i) := by
  have h3 := nF_facts h
  rw [kBias_n h, nI_two_mul, kFrac_n h, kInf_n h, nInf_e h, x_ro (by omega), nI_l (by omega)]
  have p : (nI e ≤ nI (2 * nBi i)) ↔ e ≤ 2 * nBi i := nI_leI (by omega) (by omega)
  by_cases c : e ≤ 2 * nBi i
  · rw [if_pos (p.mpr c), if_pos c]
    have e1 : lN e - 1 = lN (e - 1) := jN_sub (b := 1) he
    rw [e1, jN_shl _ (by omega), jN_add]
  · rw [if_neg (fun z => c (p.mp z)), if_neg c]
theorem x_from {i : Nat} (h : i < 2) {S e : Nat} (hS : S < 2 ^ 57) (he : 1 ≤ e) (he2 : e < 2 ^ 19) : fX0_sizeFrom i (lN S) (nI e) = lN (fromN (nF i) (nBi i) S e) := by
  have h3 := nF_facts h
  have h8 : (3 : Int32) = nI 3 := rfl
  have h1 : (1 : Int32) = nI 1 := rfl
  have hp := Nat.two_pow_pos (nF i)
  have e8 : kHid i <<< ((3 : Int32).toInt64 &&& 63) = lN (8 * 2 ^ nF i) := by
    rw [kHid_n h, h8, jN_shl _ (by decide)]; congr 1; omega
  have e16 : lN (8 * 2 ^ nF i) <<< ((1 : Int32).toInt64 &&& 63) = lN (16 * 2 ^ nF i) := by
    rw [h1, jN_shl _ (by decide)]; congr 1; omega
  have ei : nI e + 1 = nI (e + 1) := nI_1 e
  unfold fX0_sizeFrom fromN
  rw [e8]
  dsimp only
  rw [e16, ei]
  have p : (lN S < lN (16 * 2 ^ nF i)) ↔ S < 16 * 2 ^ nF i := jN_lt (by omega) (by omega)
  by_cases c : S < 16 * 2 ^ nF i
  · rw [if_pos (p.mpr c), if_pos c, x_loop (by omega) 64 S e (by omega) he (by omega)]
    have := sfN_le (8 * 2 ^ nF i) 64 S e
    exact x_fin h (by omega) (this.2.1 he) (by omega)
  · rw [if_neg (fun z => c (p.mp z)), if_neg c]
    have hs2 : sdN S 2 < 2 ^ 56 := by unfold sdN; split <;> omega
    have e2 : fX0_shiftedDown (lN S) (1 : Int32) = lN (sdN S 2) := by
      have := x_sd (x := S) (by omega) (D := 1) (by decide)
      rw [h1]; exact this
    rw [e2, x_loop (by omega) 64 (sdN S 2) (e + 1) hs2 (by omega) (by omega)]
    have := sfN_le (8 * 2 ^ nF i) 64 (sdN S 2) (e + 1)
    exact x_fin h (by omega) (this.2.1 (by omega)) (by omega)
