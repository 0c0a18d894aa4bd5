/-! the class's whole number -/
theorem subI {a b : Nat} (ha : a < 2 ^ 30) (hb : b < 2 ^ 30) : (nI a - nI b).toInt = (a : Int) - (b : Int) := by
  rw [Int32.toInt_sub, nI_toInt (by omega), nI_toInt (by omega), Int.bmod_def]
  omega
def uO (i : Nat) : Nat := 2 ^ (nF i + nBi i - 1)
theorem moreN_gt {s : Bool} {w : Int32} {Q R U : Nat} (hR : R = 0) (hU : 0 < U) : moreN s w Q R U = false := by
  unfold moreN
  rw [hR]
  split
  · simp
  · split
    · simp
    · simp; omega
theorem x_part {i : Nat} (h : i < 2) {s : Bool} {m : Nat} (hm0 : 0 < m) (hm : m < nBi i * 2 ^ nF i) {w : Int32} (hw : w = 0 ∨ w = 1 ∨ w = 2) :
    fX0_wholeOfPart i (lN (kN i s m)) w = lN ((moreN s w (vU (nF i) m / uO i) (vU (nF i) m % uO i) (uO i)).toNat * (nBi i * 2 ^ nF i)) ∧ vU (nF i) m / uO i = 0 := by
  have hB := nB_facts h
  have hF := nF_facts h
  have hp := Nat.two_pow_pos (nF i)
  have hbT : nBi i * 2 ^ nF i < 2 ^ nB i := by
    rw [hB.2.2.2]
    exact Nat.mul_lt_mul_of_pos_right (by omega) hp
  have hm2 : m < 2 ^ nB i := by omega
  have hU : uO i = 2 ^ nF i * 2 ^ (nBi i - 1) := by unfold uO; rw [← Nat.pow_add]; congr 1; omega
  have hlt : vU (nF i) m < uO i := by rw [hU, ← vU_pow (nF i) (nBi i) (by omega)]; exact vU_lt hm
  have hq : vU (nF i) m / uO i = 0 := Nat.div_eq_of_lt hlt
  have hr : vU (nF i) m % uO i = vU (nF i) m := Nat.mod_eq_of_lt hlt
  have hv0 : ¬ vU (nF i) m = 0 := fun z => by
    have := vU_inj (F := nF i) (m := m) (n := 0) (by rw [z, vU_zero]); omega
  refine ⟨?_, hq⟩
  rw [hq, hr]
  unfold fX0_wholeOfPart
  have hone : kOne i = lN (nBi i * 2 ^ nF i) := kOne_n h
  have z0 : (0 : Int64) = lN (0 * (nBi i * 2 ^ nF i)) := by rw [Nat.zero_mul]; rfl
  have z1 : lN (nBi i * 2 ^ nF i) = lN (1 * (nBi i * 2 ^ nF i)) := by rw [Nat.one_mul]
  have t1 : ¬ (1 : Int32) = 0 := by decide
  have t3 : ¬ (0 : Int32) = 2 := by decide
  have t4 : ¬ (1 : Int32) = 2 := by decide
  have t5 : ¬ (0 : Int32) = 1 := by decide
  have nn := kN_nn h (s := s) hm2
  have ng := kN_neg h (s := s) hm2
  rcases hw with rfl | rfl | rfl
  · rw [if_neg t3]
    unfold fX0_growsBy
    rw [if_neg t5]
    have hmo : moreN s 0 0 (vU (nF i) m) (uO i) = s := by unfold moreN; rw [if_pos rfl, decide_eq_true hv0, Bool.and_true]
    rw [hmo]
    cases s
    · rw [if_pos (nn.mpr rfl), if_pos rfl]; exact z0
    · have q : ¬ (0 : Int64) ≤ lN (kN i true m) := fun z => by have := nn.mp z; simp at this
      rw [if_neg q, if_neg t1, hone]; exact z1
  · rw [if_neg t4]
    unfold fX0_growsBy
    rw [if_pos rfl]
    have hmo : moreN s 1 0 (vU (nF i) m) (uO i) = !s := by unfold moreN; rw [if_neg t1, if_pos rfl, decide_eq_true hv0, Bool.and_true]
    rw [hmo]
    cases s
    · have q : ¬ lN (kN i false m) < (0 : Int64) := fun z => by have := ng.mp z; simp at this
      rw [if_neg q, if_neg t1, hone]; exact z1
    · rw [if_pos (ng.mpr rfl), if_pos rfl]; exact z0
  · rw [if_pos rfl, n_size h hm2, hone, kHid_n h]
    have hbb : 2 ^ nF i ≤ nBi i * 2 ^ nF i := Nat.le_mul_of_pos_left _ (by omega)
    rw [jN_sub hbb]
    have e1 : nBi i * 2 ^ nF i - 2 ^ nF i = (nBi i - 1) * 2 ^ nF i := by rw [Nat.sub_mul, Nat.one_mul]
    rw [e1]
    have hle : (nBi i - 1) * 2 ^ nF i ≤ nBi i * 2 ^ nF i := Nat.mul_le_mul_right _ (by omega)
    have p : lN m ≤ lN ((nBi i - 1) * 2 ^ nF i) ↔ m ≤ (nBi i - 1) * 2 ^ nF i := jN_le (by omega) (by omega)
    have hU2 : uO i = 2 * vU (nF i) ((nBi i - 1) * 2 ^ nF i) := by
      rw [vU_pow (nF i) (nBi i - 1) (by omega), hU, show nBi i - 1 = nBi i - 1 - 1 + 1 by omega, Nat.pow_succ, Nat.add_sub_cancel, ← Nat.mul_assoc, Nat.mul_comm]
    have hiff := vU_iff (F := nF i) (m := (nBi i - 1) * 2 ^ nF i) (n := m)
    have hmo : moreN s 2 0 (vU (nF i) m) (uO i) = decide ((nBi i - 1) * 2 ^ nF i < m) := by
      unfold moreN
      rw [if_neg (by decide), if_neg (by decide)]
      by_cases c : (nBi i - 1) * 2 ^ nF i < m
      · have := hiff.mpr c
        rw [decide_eq_true c, decide_eq_true (show uO i < 2 * vU (nF i) m by omega)]; rfl
      · have : ¬ vU (nF i) ((nBi i - 1) * 2 ^ nF i) < vU (nF i) m := fun z => c (hiff.mp z)
        rw [decide_eq_false c, decide_eq_false (show ¬ uO i < 2 * vU (nF i) m by omega), decide_eq_false (show ¬ 0 % 2 = 1 by decide)]; simp
    rw [hmo]
    by_cases c : (nBi i - 1) * 2 ^ nF i < m
    · rw [if_neg (fun z => by have := p.mp z; omega), decide_eq_true c]; exact z1
    · rw [if_pos (p.mpr (by omega)), decide_eq_false c]; exact z0
theorem x_rup {a b c : Nat} (ha : a < 2 ^ 63) (hb : b < 2 ^ 63) (hc : c < 2 ^ 63) : fX0_isRoundedUp (lN a) (lN b) (lN c) = if b < a ∨ (a = b ∧ c % 2 = 1) then 1 else 0 := by
  unfold fX0_isRoundedUp
  have h1 : (1 : Int64) = lN (2 ^ 1 - 1) := rfl
  rw [h1, jN_and, Nat.and_two_pow_sub_one_eq_mod, Nat.pow_one]
  have p1 : lN b < lN a ↔ b < a := jN_lt hb ha
  have p2 : lN a = lN b ↔ a = b := jN_inj (by omega) (by omega)
  have p3 : lN (c % 2) = lN (2 - 1) ↔ c % 2 = 1 := jN_inj (by omega) (by decide)
  by_cases c1 : b < a
  · rw [if_pos (p1.mpr c1), if_pos (Or.inl c1)]
  · rw [if_neg (fun z => c1 (p1.mp z))]
    by_cases c2 : a = b
    · rw [if_pos (p2.mpr c2)]
      by_cases c3 : c % 2 = 1
      · rw [if_pos (p3.mpr c3), if_pos (Or.inr ⟨c2, c3⟩)]
      · rw [if_neg (fun z => c3 (p3.mp z)), if_neg (by rintro (z | z); exact c1 z; exact c3 z.2)]
    · rw [if_neg (fun z => c2 (p2.mp z)), if_neg (by rintro (z | z); exact c1 z; exact c2 z.1)]
/-- the number's size as a whole number and a part, both in units of its last digit -/
theorem x_mixed {i : Nat} (h : i < 2) {s : Bool} {m : Nat} (h1 : nBi i ≤ expN (nF i) m) (h2 : expN (nF i) m < nBi i + nF i) {w : Int32} (hw : w = 0 ∨ w = 1 ∨ w = 2) (hm : m < 2 ^ nB i) :
    ∃ r, r ≤ nInf i ∧ fX0_wholeOfMixed i (lN (kN i s m)) w (nI (nF i + nBi i - expN (nF i) m)) = lN r ∧ vU (nF i) r = (vU (nF i) m / uO i + (moreN s w (vU (nF i) m / uO i) (vU (nF i) m % uO i) (uO i)).toNat) * uO i := by
  have hB := nB_facts h
  have hF := nF_facts h
  obtain ⟨a1, a2, a3⟩ := sig_e (nF i) m
  have hcl := sig_lt (F := nF i) (m := m)
  have hcT := a3 (by omega)
  obtain ⟨sh, hsh⟩ : ∃ sh, sh = nF i + nBi i - expN (nF i) m := ⟨_, rfl⟩
  obtain ⟨g, hg⟩ : ∃ g, g = nF i - sh := ⟨_, rfl⟩
  have hp := Nat.two_pow_pos sh
  have hgp := Nat.two_pow_pos g
  have hT : 2 ^ nF i = 2 ^ g * 2 ^ sh := by rw [← Nat.pow_add]; congr 1; omega
  have hUe : uO i = 2 ^ sh * 2 ^ (expN (nF i) m - 1) := by unfold uO; rw [← Nat.pow_add]; congr 1; omega
  have hX : vU (nF i) m = sigN (nF i) m * 2 ^ (expN (nF i) m - 1) := rfl
  have hQ : vU (nF i) m / uO i = sigN (nF i) m / 2 ^ sh := by rw [hX, hUe, Nat.mul_div_mul_right _ _ (Nat.two_pow_pos _)]
  have hR : vU (nF i) m % uO i = sigN (nF i) m % 2 ^ sh * 2 ^ (expN (nF i) m - 1) := by rw [hX, hUe, Nat.mul_mod_mul_right]
  have hpart : m % 2 ^ sh = sigN (nF i) m % 2 ^ sh := by
    have : m = 2 ^ sh * ((expN (nF i) m - 1) * 2 ^ g) + sigN (nF i) m := by
      rw [Nat.mul_comm (2 ^ sh), Nat.mul_assoc, ← hT]; omega
    rw [this, Nat.mul_add_mod, ← this]
  rw [← hsh, hQ, hR]
  unfold fX0_wholeOfMixed
  have o1 : (1 : Int64) <<< ((nI sh).toInt64 &&& 63) = lN (2 ^ sh) := by
    have : (1 : Int64) = lN 1 := rfl
    rw [this, jN_shl 1 (by omega), Nat.one_mul]
  have hshF : 2 ^ sh ≤ 2 ^ nF i := Nat.pow_le_pow_right (by decide) (by omega)
  have o2 : lN (2 ^ sh) - (1 : Int64) = lN (2 ^ sh - 1) := jN_sub (b := 1) hp
  rw [n_size h hm, o1, o2, jN_and, Nat.and_two_pow_sub_one_eq_mod, hpart]
  dsimp only
  obtain ⟨c, hc⟩ : ∃ c, c = sigN (nF i) m := ⟨_, rfl⟩
  obtain ⟨q, hq⟩ : ∃ q, q = expN (nF i) m - 1 := ⟨_, rfl⟩
  rw [← hc] at hcl hcT a1 ⊢
  rw [← hq] at a1 ⊢
  have hdm := Nat.div_add_mod c (2 ^ sh)
  have hpl := Nat.mod_lt c hp
  have hpm : c % 2 ^ sh ≤ m := by omega
  -- the whole part, in digits
  have hCT : 2 ^ nF i ≤ c / 2 ^ sh * 2 ^ sh := by
    rw [hT]
    refine Nat.mul_le_mul_right _ ?_
    rw [Nat.le_div_iff_mul_le hp, ← hT]; exact hcT
  have hC2 : (c / 2 ^ sh + 1) * 2 ^ sh ≤ 2 * 2 ^ nF i := by
    rw [hT, ← Nat.mul_assoc]
    refine Nat.mul_le_mul_right _ ?_
    have : c / 2 ^ sh < 2 * 2 ^ g := by rw [Nat.div_lt_iff_lt_mul hp, Nat.mul_assoc, ← hT]; exact hcl
    omega
  rw [Nat.mul_comm (2 ^ sh)] at hdm
  have hC3 := Nat.add_mul (c / 2 ^ sh) 1 (2 ^ sh)
  rw [Nat.one_mul] at hC3
  have low : ∃ r, r ≤ nInf i ∧ lN (m - c % 2 ^ sh) = lN r ∧ vU (nF i) r = (c / 2 ^ sh + 0) * uO i := by
    refine ⟨q * 2 ^ nF i + c / 2 ^ sh * 2 ^ sh, ?_, by congr 1; omega, ?_⟩
    · rw [nInf_e h]
      have := Nat.mul_le_mul_right (2 ^ nF i) (show q + 2 ≤ 2 * nBi i + 1 by omega)
      have := Nat.add_mul q 2 (2 ^ nF i)
      omega
    · rw [vU_make (Or.inr hCT) (by omega), hUe, Nat.add_zero, Nat.mul_assoc, hq]
  have high : ∃ r, r ≤ nInf i ∧ lN (m - c % 2 ^ sh + 2 ^ sh) = lN r ∧ vU (nF i) r = (c / 2 ^ sh + 1) * uO i := by
    refine ⟨q * 2 ^ nF i + (c / 2 ^ sh + 1) * 2 ^ sh, ?_, by congr 1; omega, ?_⟩
    · rw [nInf_e h]
      have := Nat.mul_le_mul_right (2 ^ nF i) (show q + 2 ≤ 2 * nBi i + 1 by omega)
      have := Nat.add_mul q 2 (2 ^ nF i)
      omega
    · rw [vU_make (Or.inr (by omega)) hC2, hUe, Nat.mul_assoc, hq]
  have z0 : (0 : Int64) = lN 0 := rfl
  have p0 : lN (c % 2 ^ sh) = 0 ↔ c % 2 ^ sh = 0 := by rw [z0]; exact jN_inj (by omega) (by decide)
  have hqp := Nat.two_pow_pos q
  by_cases c0 : c % 2 ^ sh = 0
  · rw [if_pos (p0.mpr c0), c0, Nat.zero_mul, moreN_gt (U := uO i) rfl (Nat.two_pow_pos _)]
    rw [c0] at low
    exact low
  · rw [if_neg (fun z => c0 (p0.mp z)), jN_sub hpm, jN_add]
    have hR0 : ¬ c % 2 ^ sh * 2 ^ q = 0 := fun z => by
      rcases Nat.mul_eq_zero.mp z with z | z
      · exact c0 z
      · omega
    have t1 : ¬ (1 : Int32) = 0 := by decide
    have t3 : ¬ (0 : Int32) = 2 := by decide
    have t4 : ¬ (1 : Int32) = 2 := by decide
    have t5 : ¬ (0 : Int32) = 1 := by decide
    have nn := kN_nn h (s := s) hm
    have ng := kN_neg h (s := s) hm
    rcases hw with rfl | rfl | rfl
    · rw [if_neg t3]
      unfold fX0_growsBy
      rw [if_neg t5]
      have hmo : moreN s 0 (c / 2 ^ sh) (c % 2 ^ sh * 2 ^ q) (uO i) = s := by unfold moreN; rw [if_pos rfl, decide_eq_true hR0, Bool.and_true]
      rw [hmo]
      cases s
      · rw [if_pos (nn.mpr rfl), if_pos rfl]; exact low
      · have q9 : ¬ (0 : Int64) ≤ lN (kN i true m) := fun z => by have := nn.mp z; simp at this
        rw [if_neg q9, if_neg t1]; exact high
    · rw [if_neg t4]
      unfold fX0_growsBy
      rw [if_pos rfl]
      have hmo : moreN s 1 (c / 2 ^ sh) (c % 2 ^ sh * 2 ^ q) (uO i) = !s := by unfold moreN; rw [if_neg t1, if_pos rfl, decide_eq_true hR0, Bool.and_true]
      rw [hmo]
      cases s
      · have q9 : ¬ lN (kN i false m) < (0 : Int64) := fun z => by have := ng.mp z; simp at this
        rw [if_neg q9, if_neg t1]; exact high
      · rw [if_pos (ng.mpr rfl), if_pos rfl]; exact low
    · rw [if_pos rfl]
      have hI1 : (1 : Int32) = nI 1 := rfl
      have hsp : 2 ^ sh = 2 * 2 ^ (sh - 1) := by rw [← Nat.pow_succ']; congr 1; omega
      have o3 : lN (2 ^ sh) >>> ((1 : Int32).toInt64 &&& 63) = lN (2 ^ (sh - 1)) := by
        rw [hI1, jN_shr (by omega) (by decide), Nat.pow_one]; congr 1; omega
      have o4 : fX0_significandOf i (lN m) >>> ((nI sh).toInt64 &&& 63) = lN (c / 2 ^ sh) := by rw [x_sig h hm, ← hc, jN_shr (by omega) (by omega)]
      have hdl : c / 2 ^ sh ≤ c := Nat.div_le_self _ _
      rw [o3, o4, x_rup (by omega) (by omega) (by omega)]
      have hmo : moreN s 2 (c / 2 ^ sh) (c % 2 ^ sh * 2 ^ q) (uO i) = decide (2 ^ (sh - 1) < c % 2 ^ sh ∨ (c % 2 ^ sh = 2 ^ (sh - 1) ∧ c / 2 ^ sh % 2 = 1)) := by
        unfold moreN
        rw [if_neg (by decide), if_neg (by decide), hUe, ← hq, hsp, ← Nat.mul_assoc]
        have e1 : 2 * 2 ^ (sh - 1) * 2 ^ q < 2 * (c % (2 * 2 ^ (sh - 1))) * 2 ^ q ↔ 2 ^ (sh - 1) < c % (2 * 2 ^ (sh - 1)) := by
          rw [Nat.mul_lt_mul_right hqp]; omega
        have e2 : 2 * (c % (2 * 2 ^ (sh - 1))) * 2 ^ q = 2 * 2 ^ (sh - 1) * 2 ^ q ↔ c % (2 * 2 ^ (sh - 1)) = 2 ^ (sh - 1) := by
          rw [Nat.mul_right_cancel_iff hqp]; omega
        simp only [e1, e2]
        by_cases b1 : 2 ^ (sh - 1) < c % (2 * 2 ^ (sh - 1)) <;> by_cases b2 : c % (2 * 2 ^ (sh - 1)) = 2 ^ (sh - 1) <;> by_cases b3 : c / (2 * 2 ^ (sh - 1)) % 2 = 1 <;> simp [b1, b2, b3]
      rw [hmo]
      by_cases b : 2 ^ (sh - 1) < c % 2 ^ sh ∨ (c % 2 ^ sh = 2 ^ (sh - 1) ∧ c / 2 ^ sh % 2 = 1)
      · rw [if_pos b, if_neg t1, decide_eq_true b]; exact high
      · rw [if_neg b, if_pos rfl, decide_eq_false b]; exact low
