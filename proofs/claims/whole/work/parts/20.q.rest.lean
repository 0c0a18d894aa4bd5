/-! rest: the numbers that class and model come to -/
theorem cN_f (i m : Nat) : cN i false m = m := by simp [cN]
theorem wh_big {M : Nat} (hM : M ≤ nInf 0) (h : 1075 * 2 ^ 52 ≤ M) (b w : Int32) : fX3_whole (UInt64.ofNat (cN 0 false M)) b w = UInt64.ofNat (cN 0 false M) := by
  unfold fX3_whole
  rw [if_neg (fun z => by have := (wh_lt hM).mp z; omega)]
theorem rest_fine {s : Bool} {m : Nat} (hm : m ≤ nInf 0) {w : Int32} (hw : w = 0 ∨ w = 1 ∨ w = 2) :
    ∃ r, r ≤ nInf 0 ∧ fX0_wholeOf 0 (lN (kN 0 s m)) w = lN (kN 0 s r) ∧ fX3_sided 1 (fJxe99ae_doubleToLongBits_ccdee (fX3_whole (lN m).toUInt64 (if s then 1 else 0) w)) (if s then 1 else 0) = lN (kN 0 s r) := by
  have hu : (lN m).toUInt64 = UInt64.ofNat (cN 0 false m) := by rw [cN_f]; exact jN_u
  have hB := (nB_facts (i := 0) (by decide)).1
  obtain ⟨x1, x2⟩ := x_whole (i := 0) (by decide) (s := s) hm hw
  rw [hu]
  rcases Nat.lt_or_ge m (1075 * 2 ^ 52) with h | h
  · obtain ⟨r, h1, h2, h3⟩ := x2 h
    obtain ⟨W, g1, g2, g3⟩ := wh_val h s hw
    have hWr : W = r := by
      apply vU_inj (F := 52)
      rw [g3]
      exact h3.symm
    refine ⟨r, h1, h2, ?_⟩
    rw [g2, hWr, d2b h1, kN_false]
    exact m_sided (i := 0) (by decide) s (Nat.lt_of_le_of_lt h1 hB)
  · refine ⟨m, hm, x1 h, ?_⟩
    rw [wh_big hm h, d2b hm, kN_false]
    exact m_sided (i := 0) (by decide) s (Nat.lt_of_le_of_lt hm hB)
theorem moreN_scale (s : Bool) (w : Int32) (Q R U K : Nat) (hK : 0 < K) : moreN s w Q (R * K) (U * K) = moreN s w Q R U := by
  have e1 : R * K = 0 ↔ R = 0 := by
    constructor
    · intro z; rcases Nat.mul_eq_zero.mp z with z | z
      · exact z
      · omega
    · intro z; rw [z, Nat.zero_mul]
  have e2 : U * K < 2 * (R * K) ↔ U < 2 * R := by rw [← Nat.mul_assoc]; exact Nat.mul_lt_mul_right hK
  have e3 : 2 * (R * K) = U * K ↔ 2 * R = U := by rw [← Nat.mul_assoc]; exact Nat.mul_right_cancel_iff hK
  unfold moreN
  simp only [e1, e2, e3]
theorem inf_wide : FP.f2d (UInt32.ofNat (cN 1 false (nInf 1))) = UInt64.ofNat (cN 0 false (nInf 0)) := by decide +kernel
theorem inf_narrow : FP.d2f (UInt64.ofNat (cN 0 false (nInf 0))) = UInt32.ofNat (cN 1 false (nInf 1)) := by decide +kernel
theorem p_split : (2 : Nat) ^ 1074 = 2 ^ 149 * 2 ^ 925 := by decide +kernel
theorem uO1 : uO 1 = 2 ^ 149 := rfl
theorem bd_lem {W n P : Nat} (hP : 2 ^ 52 * 2 ^ (926 - 1) ≤ P) (g : vU 52 W = n * P) : W = 0 ∨ 926 * 2 ^ 52 ≤ W := by
  rcases Nat.eq_zero_or_pos n with z | z
  · left
    rw [z, Nat.zero_mul] at g
    exact vU_inj (F := 52) (by rw [g, vU_zero])
  · right
    apply Nat.le_of_not_lt
    intro c
    have c1 := vU_lt (F := 52) c
    rw [vU_pow 52 926 (by decide), g] at c1
    have e2 : 1 * P ≤ n * P := Nat.mul_le_mul_right _ z
    rw [Nat.one_mul] at e2
    exact absurd (Nat.lt_of_lt_of_le c1 (Nat.le_trans hP e2)) (Nat.lt_irrefl _)
theorem rm_lem {V X P K : Nat} (hR : X % P = 0) (g : V = (X / P + 0) * (P * K)) : V = X * K := by
  have := Nat.div_add_mod X P
  rw [hR, Nat.add_zero, Nat.mul_comm] at this
  rw [g, Nat.add_zero, ← Nat.mul_assoc, this]
theorem as_lem {V r n P K : Nat} (h : r = n * P) (g : V = n * (P * K)) : V = r * K := by rw [g, h, Nat.mul_assoc]
theorem v150 : vU 23 (150 * 2 ^ 23) = 2 ^ 172 := (vU_pow 23 150 (by decide)).trans (by decide +kernel)
theorem vI1 : vU 23 (nInf 1) = 2 ^ 277 := (vU_pow 23 255 (by decide)).trans (by decide +kernel)
theorem bd_r {Q B P : Nat} (hq : Q < 2 ^ 23) (hb : B ≤ 1) (hP : (2 ^ 23 + 1) * P < 2 ^ 277) : (Q + B) * P < 2 ^ 277 := Nat.lt_of_le_of_lt (Nat.mul_le_mul_right _ (by omega)) hP
/-- what the model makes of a coarse size -/
theorem rest_core {s : Bool} {m : Nat} (hm : m ≤ nInf 1) {w : Int32} (hw : w = 0 ∨ w = 1 ∨ w = 2) :
    ∃ r, r ≤ nInf 1 ∧ fX0_wholeOf 1 (lN (kN 1 s m)) w = lN (kN 1 s r) ∧ FP.d2f (fX3_whole (FP.f2d (UInt32.ofNat (cN 1 false m))) (if s then 1 else 0) w) = UInt32.ofNat (cN 1 false r) := by
  obtain ⟨x1, x2⟩ := x_whole (i := 1) (by decide) (s := s) hm hw
  have hT : (nBi 1 + nF 1) * 2 ^ nF 1 = 150 * 2 ^ 23 := rfl
  rw [hT] at x1 x2
  rcases Nat.eq_or_lt_of_le hm with hi | hi
  · refine ⟨m, hm, x1 (by rw [hi]; decide), ?_⟩
    rw [hi, inf_wide, wh_big (Nat.le_refl _) (by decide), inf_narrow]
  · obtain ⟨M, hM, hf, hv⟩ := wide_val hi
    rw [hf]
    have hUp := Nat.two_pow_pos 149
    have hKp := Nat.two_pow_pos 925
    -- a big float is whole
    have bigX : 150 * 2 ^ 23 ≤ m → vU 23 m % 2 ^ 149 = 0 := by
      intro hge
      have he : 150 ≤ expN 23 m := by
        unfold expN
        rw [if_neg (by omega)]
        exact (Nat.le_div_iff_mul_le (by decide)).mpr hge
      unfold vU
      rw [show expN 23 m - 1 = (expN 23 m - 150) + 149 by omega, Nat.pow_add, ← Nat.mul_assoc]
      exact Nat.mul_mod_left _ _
    rcases Nat.lt_or_ge M (1075 * 2 ^ 52) with h | h
    · obtain ⟨W, g1, g2, g3⟩ := wh_val h s hw
      rw [g2]
      rw [hv, p_split, Nat.mul_div_mul_right _ _ hKp, Nat.mul_mod_mul_right, moreN_scale _ _ _ _ _ _ hKp] at g3
      have hbd := bd_lem (by decide +kernel) g3
      rcases Nat.lt_or_ge m (150 * 2 ^ 23) with hs | hs
      · obtain ⟨r, h1, h2, h3⟩ := x2 hs
        rw [uO1] at h3
        have h3' : vU 23 r = (vU 23 m / 2 ^ 149 + (moreN s w (vU 23 m / 2 ^ 149) (vU 23 m % 2 ^ 149) (2 ^ 149)).toNat) * 2 ^ 149 := h3
        have hr : r < nInf 1 := by
          apply (vU_iff (F := 23)).mp
          rw [vI1, h3']
          have hX : vU 23 m < 2 ^ 172 := by rw [← v150]; exact vU_lt hs
          refine bd_r ?_ ?_ (by decide +kernel)
          · rw [Nat.div_lt_iff_lt_mul hUp]
            exact Nat.lt_of_lt_of_le hX (by decide +kernel)
          · cases moreN s w (vU 23 m / 2 ^ 149) (vU 23 m % 2 ^ 149) (2 ^ 149) <;> decide
        exact ⟨r, h1, h2, narrow_val g1 hr (as_lem h3' g3) hbd⟩
      · have hR := bigX hs
        rw [hR, moreN_gt rfl hUp] at g3
        have hWM := rm_lem hR g3
        exact ⟨m, hm, x1 hs, narrow_val g1 hi hWM hbd⟩
    · have hs : 150 * 2 ^ 23 ≤ m := by
        apply Nat.le_of_not_lt
        intro c
        have c1 := vU_lt (F := 23) c
        rw [v150] at c1
        have c2 : vU 52 (1075 * 2 ^ 52) ≤ vU 52 M := by
          rcases Nat.eq_or_lt_of_le h with z | z
          · rw [← z]; exact Nat.le_refl _
          · exact Nat.le_of_lt (vU_lt z)
        rw [vU_pow 52 1075 (by decide), hv] at c2
        have c3 : vU 23 m * 2 ^ 925 < 2 ^ 172 * 2 ^ 925 := Nat.mul_lt_mul_of_pos_right c1 hKp
        exact absurd (Nat.lt_of_le_of_lt c2 c3) (by decide +kernel)
      refine ⟨m, hm, x1 hs, ?_⟩
      rw [wh_big (Nat.le_of_lt hM) h]
      exact narrow_val hM hi hv (Or.inr (by omega))
theorem rest_coarse {s : Bool} {m : Nat} (hm : m ≤ nInf 1) {w : Int32} (hw : w = 0 ∨ w = 1 ∨ w = 2) :
    ∃ r, r ≤ nInf 1 ∧ fX0_wholeOf 1 (lN (kN 1 s m)) w = lN (kN 1 s r) ∧ fX3_sided 0 ((fJxf58ca_floatToIntBits_5c35a (FP.d2f (fX3_whole (FP.f2d (lN m).toInt32.toUInt32) (if s then 1 else 0) w))).toInt64) (if s then 1 else 0) = lN (kN 1 s r) := by
  have hI : nInf 1 = 2139095040 := rfl
  have hu : (lN m).toInt32.toUInt32 = UInt32.ofNat (cN 1 false m) := by
    have := u32_of (s := false) (m := m) (by omega)
    rw [kN_false] at this
    exact this
  obtain ⟨r, h1, h2, h3⟩ := rest_core (s := s) hm hw
  refine ⟨r, h1, h2, ?_⟩
  rw [hu, h3, f2b h1, kN_false]
  exact m_sided (i := 1) (by decide) s (Nat.lt_of_le_of_lt h1 (nB_facts (i := 1) (by decide)).1)
theorem wh_norm (x : UInt64) (b w : Int32) : fX3_whole x b w = fX3_whole x (if decide (¬ b = 0) then 1 else 0) (if w = 0 then 0 else if w = 1 then 1 else 2) := by
  unfold fX3_whole
  by_cases c1 : w = 0
  · by_cases c2 : b = 0 <;> simp [c1, c2]
  · by_cases c3 : w = 1
    · by_cases c2 : b = 0 <;> simp [c3, c2]
    · simp [c1, c3]
/-- what the model's rest asks of its sums -/
theorem rest_okF {s : Bool} {m : Nat} (hm : m ≤ nInf 0) : vn_snl2d (lN m) = false ∧ WhOK (lN m).toUInt64 := by
  have hu : (lN m).toUInt64 = UInt64.ofNat (cN 0 false m) := by rw [cN_f]; exact jN_u
  refine ⟨?_, by rw [hu]; exact wh_ok hm⟩
  unfold vn_snl2d
  rw [hu]
  have := u64_num (s := false) hm
  rw [decide_eq_false (by simpa using this), Bool.false_and]
theorem rest_okC {m : Nat} (hm : m ≤ nInf 1) (x2 : Int32) : vn_sni2f (lN m).toInt32 = false ∧ vf_n64 (FP.f2d (lN m).toInt32.toUInt32) ∧ WhOK (FP.f2d (lN m).toInt32.toUInt32) ∧ ∀ (b : Int32) (w : UInt64), w = fX3_whole (FP.f2d (lN m).toInt32.toUInt32) b x2 → vf_n32 (FP.d2f w) := by
  have hI : nInf 1 = 2139095040 := rfl
  have hu : (lN m).toInt32.toUInt32 = UInt32.ofNat (cN 1 false m) := by
    have := u32_of (s := false) (m := m) (by omega)
    rw [kN_false] at this
    exact this
  obtain ⟨m', a1, a2, a3, a4, a5, a6⟩ := wide_eq (s := false) hm
  rw [kN_false] at a5 a6
  refine ⟨a5, a6, ?_, ?_⟩
  · rw [hu, a3]; exact wh_ok a1
  · intro b w e
    rw [e, hu, wh_norm]
    have hw : ∀ w : Int32, (if w = 0 then (0 : Int32) else if w = 1 then 1 else 2) = 0 ∨ (if w = 0 then (0 : Int32) else if w = 1 then 1 else 2) = 1 ∨ (if w = 0 then (0 : Int32) else if w = 1 then 1 else 2) = 2 := by
      intro w
      by_cases c1 : w = 0
      · exact Or.inl (by rw [if_pos c1])
      · by_cases c2 : w = 1
        · exact Or.inr (Or.inl (by rw [if_neg c1, if_pos c2]))
        · exact Or.inr (Or.inr (by rw [if_neg c1, if_neg c2]))
    obtain ⟨r, h1, h2, h3⟩ := rest_core (s := decide (¬ b = 0)) hm (hw x2)
    rw [h3]
    exact u32_num h1
