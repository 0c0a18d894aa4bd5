/-! numbers of a kind: a side and a size -/
def nB (i : Nat) : Nat := if i = 0 then 63 else 31
def nF (i : Nat) : Nat := if i = 0 then 52 else 23
def nBi (i : Nat) : Nat := if i = 0 then 1023 else 127
def nInf (i : Nat) : Nat := if i = 0 then 9218868437227405312 else 2139095040
def fI (i : Nat) : Int32 := if i = 0 then 1 else 0
def kN (i : Nat) (s : Bool) (m : Nat) : Nat := (if s then 2 ^ 64 - 2 ^ nB i else 0) + m
theorem i_cases {i : Nat} (h : i < 2) : i = 0 ∨ i = 1 := by omega
theorem kSide_n {i : Nat} (h : i < 2) : kSide i = lN (2 ^ 64 - 2 ^ nB i) := by rcases i_cases h with rfl | rfl <;> decide +kernel
theorem kMask_n {i : Nat} (h : i < 2) : kSide i ^^^ (-1 : Int64) = lN (2 ^ nB i - 1) := by rcases i_cases h with rfl | rfl <;> decide +kernel
theorem kHid_n {i : Nat} (h : i < 2) : kHid i = lN (2 ^ nF i) := by rcases i_cases h with rfl | rfl <;> decide +kernel
theorem kInf_n {i : Nat} (h : i < 2) : kInf i = lN (nInf i) := by rcases i_cases h with rfl | rfl <;> decide +kernel
theorem kOne_n {i : Nat} (h : i < 2) : kOne i = lN (nBi i * 2 ^ nF i) := by rcases i_cases h with rfl | rfl <;> decide +kernel
theorem kFrac_n {i : Nat} (h : i < 2) : kFrac i = nI (nF i) := by rcases i_cases h with rfl | rfl <;> decide +kernel
theorem kBias_n {i : Nat} (h : i < 2) : kBias i = nI (nBi i) := by rcases i_cases h with rfl | rfl <;> decide +kernel
theorem nInf_e {i : Nat} (h : i < 2) : nInf i = (2 * nBi i + 1) * 2 ^ nF i := by rcases i_cases h with rfl | rfl <;> decide +kernel
theorem nB_facts {i : Nat} (h : i < 2) : nInf i < 2 ^ nB i ∧ 2 ^ nB i ≤ 2 ^ 63 ∧ 2 ^ 64 - 2 ^ nB i = 2 ^ nB i * (2 ^ (64 - nB i) - 1) ∧ 2 ^ nB i = (2 * nBi i + 2) * 2 ^ nF i := by rcases i_cases h with rfl | rfl <;> decide +kernel
theorem nF_facts {i : Nat} (h : i < 2) : 2 ^ nF i ≤ 2 ^ 52 ∧ nF i ≤ 52 ∧ 23 ≤ nF i ∧ nBi i ≤ 1023 ∧ 127 ≤ nBi i := by rcases i_cases h with rfl | rfl <;> decide +kernel
theorem kN_lt {i : Nat} (h : i < 2) {s : Bool} {m : Nat} (hm : m < 2 ^ nB i) : kN i s m < 2 ^ 64 := by
  have h2 := (nB_facts h).2.1
  unfold kN
  cases s
  · simp only [Bool.false_eq_true, if_false]; omega
  · simp only [if_true]; omega
theorem kN_form {i : Nat} (h : i < 2) (s : Bool) (m : Nat) : ∃ k : Nat, kN i s m = 2 ^ nB i * k + m := by
  cases s
  · exact ⟨0, by simp [kN]⟩
  · exact ⟨2 ^ (64 - nB i) - 1, by unfold kN; rw [if_pos rfl, (nB_facts h).2.2.1]⟩
theorem kN_nn {i : Nat} (h : i < 2) {s : Bool} {m : Nat} (hm : m < 2 ^ nB i) : 0 ≤ lN (kN i s m) ↔ s = false := by
  rw [jN_nn (kN_lt h hm)]
  have h2 := (nB_facts h).2.1
  unfold kN
  cases s
  · simp only [Bool.false_eq_true, if_false]; simp; omega
  · simp only [if_true]; simp; omega
theorem kN_neg {i : Nat} (h : i < 2) {s : Bool} {m : Nat} (hm : m < 2 ^ nB i) : lN (kN i s m) < 0 ↔ s = true := by
  rw [← Int64.not_le, kN_nn h hm]
  cases s <;> simp
theorem kN_inj {i : Nat} (h : i < 2) {s t : Bool} {m n : Nat} (hm : m < 2 ^ nB i) (hn : n < 2 ^ nB i) : lN (kN i s m) = lN (kN i t n) ↔ s = t ∧ m = n := by
  rw [jN_inj (kN_lt h hm) (kN_lt h hn)]
  have h2 := (nB_facts h).2.1
  unfold kN
  cases s <;> cases t <;> simp <;> omega
theorem n_size {i : Nat} (h : i < 2) {s : Bool} {m : Nat} (hm : m < 2 ^ nB i) : fX0_sizeOf i (lN (kN i s m)) = lN m := by
  obtain ⟨k, hk⟩ := kN_form h s m
  unfold fX0_sizeOf
  rw [kMask_n h, jN_and, hk, nx_low hm]
theorem n_size0 {i : Nat} (h : i < 2) {m : Nat} (hm : m < 2 ^ nB i) : fX0_sizeOf i (lN m) = lN m := by
  have := n_size h (s := false) hm
  rw [show kN i false m = m by simp [kN]] at this
  exact this
theorem n_rank {i : Nat} (h : i < 2) {s : Bool} {m : Nat} (hm : m < 2 ^ nB i) : (fX0_rankOf i (lN (kN i s m))).toInt = if s then -1 - (m : Int) else m := by
  have h2 := (nB_facts h).2.1
  unfold fX0_rankOf
  cases s
  · rw [if_pos ((kN_nn h hm).mpr rfl), if_neg (by simp)]
    rw [show kN i false m = m by simp [kN]]
    exact jN_toInt (by omega)
  · rw [if_neg (fun z => by have := (kN_nn h hm).mp z; simp at this), if_pos rfl, kMask_n h, jN_xor]
    have hk : kN i true m = 2 ^ nB i * (2 ^ (64 - nB i) - 1) + m := by unfold kN; rw [if_pos rfl, (nB_facts h).2.2.1]
    rw [hk, nx_flip hm, ← (nB_facts h).2.2.1, jN_neg (by omega) (by omega)]
    omega
theorem n_or {i : Nat} (h : i < 2) {m : Nat} (hm : m < 2 ^ nB i) : lN m ||| kSide i = lN (kN i true m) := by
  rw [kSide_n h, jN_or, Nat.or_comm]
  unfold kN
  rw [if_pos rfl, (nB_facts h).2.2.1, ← Nat.two_pow_add_eq_or_of_lt hm]
theorem n_side {i : Nat} (h : i < 2) {j : Nat} (hj : j < 2) {s : Bool} {m n : Nat} (hm : m < 2 ^ nB i) (hn : n < 2 ^ nB j) : fX0_withSideOf i (lN m) (lN (kN j s n)) = lN (kN i s m) := by
  unfold fX0_withSideOf
  cases s
  · rw [if_pos ((kN_nn hj hn).mpr rfl), n_size0 h hm]; simp [kN]
  · rw [if_neg (fun z => by have := (kN_nn hj hn).mp z; simp at this), n_or h hm]
theorem n_sideN {i : Nat} (h : i < 2) {s : Bool} {m n : Nat} {t : Bool} (hm : m < 2 ^ nB i) (hn : n < 2 ^ nB i) : fX0_withSideOf i (lN (kN i s m)) (lN (kN i t n)) = lN (kN i t m) := by
  unfold fX0_withSideOf
  cases t
  · rw [if_pos ((kN_nn h hn).mpr rfl), n_size h hm]; simp [kN]
  · rw [if_neg (fun z => by have := (kN_nn h hn).mp z; simp at this)]
    cases s
    · rw [show kN i false m = m by simp [kN], n_or h hm]
    · rw [kSide_n h, jN_or]
      congr 1
      unfold kN
      rw [if_pos rfl, (nB_facts h).2.2.1, Nat.two_pow_add_eq_or_of_lt hm, Nat.or_assoc, Nat.or_comm m, ← Nat.or_assoc, Nat.or_self]
theorem n_negated {i : Nat} (h : i < 2) {s : Bool} {m : Nat} (hm : m < 2 ^ nB i) : fX0_negated i (lN (kN i s m)) = lN (kN i (!s) m) := by
  unfold fX0_negated
  cases s
  · rw [if_pos ((kN_nn h hm).mpr rfl), show kN i false m = m by simp [kN], n_or h hm]; rfl
  · rw [if_neg (fun z => by have := (kN_nn h hm).mp z; simp at this), n_size h hm]; simp [kN]
