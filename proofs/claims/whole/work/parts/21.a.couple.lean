/-! class and model, number by number -/
def NumV (i : Nat) (v : Int64) : Prop := ∃ (s : Bool) (m : Nat), m ≤ nInf i ∧ v = lN (kN i s m)
def SzV (i : Nat) (v : Int64) : Prop := ∃ m : Nat, m ≤ nInf i ∧ v = lN m
theorem le_B {i : Nat} (h : i < 2) {m : Nat} (hm : m ≤ nInf i) : m < 2 ^ nB i := Nat.lt_of_le_of_lt hm (nB_facts h).1
theorem e_rank {i : Nat} (h : i < 2) {v : Int64} (hv : NumV i v) : fX3_rank (fI i) v = fX0_rankOf i v := by
  obtain ⟨s, m, hm, rfl⟩ := hv
  have hm2 := le_B h hm
  apply Int64.toInt_inj.mp
  rw [n_rank h hm2]
  unfold fX3_rank
  rw [m_size h, n_size h hm2]
  have h2 := (nB_facts h).2.1
  cases s
  · rw [if_pos ((kN_nn h hm2).mpr rfl), kN_false, jN_toInt (by omega)]; rfl
  · have q : ¬ (0 : Int64) ≤ lN (kN i true m) := fun z => by have := (kN_nn h hm2).mp z; simp at this
    rw [if_neg q, Int64.toInt_sub, jN_toInt (by omega)]
    have : (-1 : Int64).toInt = -1 := by decide
    rw [this, Int.bmod_def, if_pos rfl]
    omega
theorem e_isn {i : Nat} (h : i < 2) (v : Int64) : fX3_isNumber (fI i) v = fX0_isNumber i v := by
  unfold fX3_isNumber fX0_isNumber
  rw [m_size h]
  rcases i_cases h with rfl | rfl
  · rw [if_neg (by decide)]; rfl
  · rw [if_pos (by decide)]; rfl
theorem e_own {i : Nat} (h : i < 2) (v : Int64) : fX3_own (fI i) v = fX0_trimmed i v := by
  unfold fX3_own fX0_trimmed
  rcases i_cases h with rfl | rfl
  · rw [if_neg (by decide), if_neg (by decide)]
  · rw [if_pos (by decide), if_pos rfl]
theorem trim_nat (n : Nat) : ∃ (s : Bool) (m : Nat), m < 2 ^ 31 ∧ (lN n).toInt32.toInt64 = lN (kN 1 s m) ∧ n % 2 ^ 31 = m := by
  refine ⟨decide (2 ^ 31 ≤ n % 2 ^ 32), n % 2 ^ 31, Nat.mod_lt _ (by decide), ?_, rfl⟩
  rw [jN_i32]
  have hm : n % 2 ^ 31 < 2 ^ 31 := Nat.mod_lt _ (by decide)
  have e : nI n = (UInt32.ofNat (cN 1 (decide (2 ^ 31 ≤ n % 2 ^ 32)) (n % 2 ^ 31))).toInt32 := by
    apply Int32.toBitVec_inj.1
    show BitVec.ofNat 32 n = BitVec.ofNat 32 (cN 1 (decide (2 ^ 31 ≤ n % 2 ^ 32)) (n % 2 ^ 31))
    apply BitVec.eq_of_toNat_eq
    rw [BitVec.toNat_ofNat, BitVec.toNat_ofNat]
    have hc : cN 1 (decide (2 ^ 31 ≤ n % 2 ^ 32)) (n % 2 ^ 31) = n % 2 ^ 32 := by
      unfold cN
      rw [show nB 1 = 31 from rfl]
      by_cases c : 2 ^ 31 ≤ n % 2 ^ 32
      · rw [decide_eq_true c]; simp; omega
      · rw [decide_eq_false c]; simp; omega
    rw [hc]; omega
  rw [e]
  exact u32_back hm
theorem e_raw {i : Nat} (h : i < 2) (v : Int64) : fX0_sizeOf i (fX0_trimmed i v) = fX0_sizeOf i v := by
  rcases i_cases h with rfl | rfl
  · rfl
  · obtain ⟨n, hn, rfl⟩ := jN_all v
    obtain ⟨s, m, hm, e1, e2⟩ := trim_nat n
    have : fX0_trimmed 1 (lN n) = lN (kN 1 s m) := e1
    rw [this, n_size (i := 1) (by decide) hm]
    unfold fX0_sizeOf
    rw [kMask_n (i := 1) (by decide), jN_and, Nat.and_two_pow_sub_one_eq_mod]
    show lN m = lN (n % 2 ^ 31)
    rw [e2]
theorem e_isn_raw {i : Nat} (h : i < 2) (v : Int64) : fX0_isNumber i (fX0_trimmed i v) = fX0_isNumber i v := by
  unfold fX0_isNumber; rw [e_raw h]
theorem num_of {i : Nat} (h : i < 2) {v : Int64} (hv : ¬ fX0_isNumber i (fX0_trimmed i v) = 0) : NumV i (fX0_trimmed i v) := by
  obtain ⟨s, m, hm, e⟩ : ∃ (s : Bool) (m : Nat), m < 2 ^ nB i ∧ fX0_trimmed i v = lN (kN i s m) := by
    obtain ⟨n, hn, rfl⟩ := jN_all v
    rcases i_cases h with rfl | rfl
    · refine ⟨decide (2 ^ 63 ≤ n), n % 2 ^ 63, Nat.mod_lt _ (by decide), ?_⟩
      show lN n = lN (kN 0 (decide (2 ^ 63 ≤ n)) (n % 2 ^ 63))
      congr 1
      unfold kN
      rw [show nB 0 = 63 from rfl]
      by_cases c : 2 ^ 63 ≤ n
      · rw [decide_eq_true c]; simp; omega
      · rw [decide_eq_false c]; simp; omega
    · obtain ⟨s, m, hm, e1, -⟩ := trim_nat n
      exact ⟨s, m, hm, e1⟩
  rw [e] at hv ⊢
  refine ⟨s, m, ?_, rfl⟩
  unfold fX0_isNumber at hv
  have hB := nB_facts h
  rw [n_size h hm, kInf_n h] at hv
  apply Nat.le_of_not_lt
  intro c
  exact hv (if_pos ((jN_lt (by omega) (by omega)).mpr c))
theorem e_alike {i : Nat} (h : i < 2) (a b : Int64) : fX3_alike (fI i) a b = fX0_areAlike i a b := by
  unfold fX3_alike fX0_areAlike fX3_isNought
  rw [m_size h, m_size h]
  by_cases c : a = b <;> by_cases d : fX0_sizeOf i a = 0 <;> by_cases e : fX0_sizeOf i b = 0 <;> simp [c, d, e]
theorem num_neg {i : Nat} (h : i < 2) {s : Bool} {m : Nat} (hm : m < 2 ^ nB i) : (if lN (kN i s m) < (0 : Int64) then (1 : Int32) else 0) = if s then 1 else 0 := by
  cases s
  · have q : ¬ lN (kN i false m) < (0 : Int64) := fun z => by have := (kN_neg h hm).mp z; simp at this
    rw [if_neg q]; rfl
  · rw [if_pos ((kN_neg h hm).mpr rfl)]; rfl
theorem e_turned {i : Nat} (h : i < 2) {s : Bool} {m : Nat} (hm : m < 2 ^ nB i) : fX3_turned (fI i) (lN (kN i s m)) = lN (kN i (!s) m) := by
  unfold fX3_turned
  rw [m_size h, n_size h hm]
  cases s
  · have q : ¬ lN (kN i false m) < (0 : Int64) := fun z => by have := (kN_neg h hm).mp z; simp at this
    rw [if_neg q]; exact m_sided h true hm
  · rw [if_pos ((kN_neg h hm).mpr rfl)]; exact m_sided h false hm
theorem n_sideJ {i : Nat} (h : i < 2) {j : Nat} (hj : j < 2) {s : Bool} {m n : Nat} {t : Bool} (hm : m < 2 ^ nB i) (hn : n < 2 ^ nB j) : fX0_withSideOf i (lN (kN i s m)) (lN (kN j t n)) = lN (kN i t m) := by
  unfold fX0_withSideOf
  cases t
  · rw [if_pos ((kN_nn hj hn).mpr rfl), n_size h hm]; simp [kN]
  · have q : ¬ (0 : Int64) ≤ lN (kN j true n) := fun z => by have := (kN_nn hj hn).mp z; simp at this
    rw [if_neg q]
    cases s
    · rw [show kN i false m = m by simp [kN], n_or h hm]
    · rw [kSide_n h, jN_or]
      congr 1
      unfold kN
      rw [if_pos rfl, (nB_facts h).2.2.1, Nat.two_pow_add_eq_or_of_lt hm, Nat.or_assoc, Nat.or_comm m, ← Nat.or_assoc, Nat.or_self]
