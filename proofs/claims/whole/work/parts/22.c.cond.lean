/-! what the model's contracts ask of the numbers -/
section UC
variable {ob arr out om fz cj : Nat} {L : List Nat} {N : Nat} {kd na : Nat → Nat} {fa : Nat → Option Nat} {ff : Nat → Int32} {cv : Nat → Int64}
theorem ST.kn (I : ST ob arr out om fz cj L N kd na fa ff cv) : 0 ≤ nI N ∧ nI N ≤ 8 := by
  have := I.hN
  exact ⟨nI_pos' (by omega), nI_le (b := 8) this (by decide)⟩
theorem ST.may (I : ST ob arr out om fz cj L N kd na fa ff cv) {kc kr kt : Int32} {kw : Int64} {x1 : Int32} {x2 : Int64} (h : ¬ (fX3_may (nI N) kc kr kt kw ff cv x1 x2).1 = 0) : ∃ k, k < N ∧ k < 8 ∧ x1 = nI k ∧ kd k < 2 ∧ ff k = fI (kd k) ∧ CK (kd k) cv k ∧ NumV (kd k) (fX0_trimmed (kd k) x2) := by
  have hN := I.hN
  rcases I.pres x1 with ⟨k, hk, rfl, -, -⟩ | ⟨hno, -⟩
  · obtain ⟨hi, hf, hc⟩ := I.kd_ok k (by omega)
    refine ⟨k, hk, by omega, rfl, hi, hf, hc, num_of hi (fun z => h ?_)⟩
    rw [mayy_in hi hk hN hf, if_pos z]
  · rw [mayy_out hN hno] at h
    exact absurd rfl h
theorem d_turn (I : ST ob arr out om fz cj L N kd na fa ff cv) (kc kr kt : Int32) (kw : Int64) (x1 : Int32) (x2 : Int64) : ∀ a : Int64, a = (cv (((7 : Int32) * x1) + (2 : Int32)).toNatClampNeg) → ¬ (fX3_may (nI N) kc kr kt kw ff cv x1 x2).1 = 0 → (fX3_isEndless (ff x1.toNatClampNeg) (fX3_own (ff x1.toNatClampNeg) x2) = 0 ∨ fX3_isEndless (ff x1.toNatClampNeg) a = 0 ∨ (fX3_own (ff x1.toNatClampNeg) x2) = a) → SumOK (ff x1.toNatClampNeg) a (fX3_own (ff x1.toNatClampNeg) x2) := by
  intro a ha hm hd
  obtain ⟨k, hk, hk8, rfl, hi, hf, hc, hn⟩ := I.may hm
  rw [ix2 hk8] at ha
  rw [nI_clamp (show k < 2 ^ 31 by omega), hf, e_own hi] at hd ⊢
  subst ha
  obtain ⟨o1, o2⟩ := opp_eq hi hc.2.2.1 hn
  have z : fX0_areOppositeInfinities (kd k) (cv (7 * k + 2)) (fX0_trimmed (kd k) x2) = 0 := by
    rw [o1]
    rcases hd with d | d | d
    · rw [if_pos d]
    · by_cases d1 : fX3_isEndless (fI (kd k)) (fX0_trimmed (kd k) x2) = 0
      · rw [if_pos d1]
      · rw [if_neg d1, if_pos d]
    · by_cases d1 : fX3_isEndless (fI (kd k)) (fX0_trimmed (kd k) x2) = 0
      · rw [if_pos d1]
      · rw [if_neg d1]
        by_cases d2 : fX3_isEndless (fI (kd k)) (cv (7 * k + 2)) = 0
        · rw [if_pos d2]
        · rw [if_neg d2, if_pos d]
  obtain ⟨s', m', -, -, -, h⟩ := o2 z
  exact h
theorem d_pull1 (I : ST ob arr out om fz cj L N kd na fa ff cv) (kc kr kt : Int32) (kw : Int64) (x1 : Int32) (x2 : Int64) : ∀ a : Int64, a = (cv (((7 : Int32) * x1) + (2 : Int32)).toNatClampNeg) → ¬ (fX3_may (nI N) kc kr kt kw ff cv x1 x2).1 = 0 → fX3_alike (ff x1.toNatClampNeg) a (fX3_own (ff x1.toNatClampNeg) x2) = 0 → SumOK (ff x1.toNatClampNeg) (fX3_own (ff x1.toNatClampNeg) x2) (fX3_turned (ff x1.toNatClampNeg) a) := by
  intro a ha hm hd
  obtain ⟨k, hk, hk8, rfl, hi, hf, hc, hn⟩ := I.may hm
  rw [ix2 hk8] at ha
  rw [nI_clamp (show k < 2 ^ 31 by omega), hf, e_own hi] at hd ⊢
  subst ha
  rw [e_alike hi] at hd
  obtain ⟨s', m', -, -, -, e3, -⟩ := pull_sum hi hc.2.2.1 hn hc.2.2.2.1 hd
  exact e3
theorem d_pull2 (I : ST ob arr out om fz cj L N kd na fa ff cv) (kc kr kt : Int32) (kw : Int64) (x1 : Int32) (x2 : Int64) : ∀ a w : Int64, a = (cv (((7 : Int32) * x1) + (2 : Int32)).toNatClampNeg) → w = fX3_sum (ff x1.toNatClampNeg) (fX3_own (ff x1.toNatClampNeg) x2) (fX3_turned (ff x1.toNatClampNeg) a) → ¬ (fX3_may (nI N) kc kr kt kw ff cv x1 x2).1 = 0 → fX3_alike (ff x1.toNatClampNeg) a (fX3_own (ff x1.toNatClampNeg) x2) = 0 → ¬ fX3_sizeOf (ff x1.toNatClampNeg) w ≤ (cv (((7 : Int32) * x1) + (3 : Int32)).toNatClampNeg) → ∀ z : Int32, SumOK (ff x1.toNatClampNeg) a (fX3_sided (ff x1.toNatClampNeg) (cv (((7 : Int32) * x1) + (3 : Int32)).toNatClampNeg) z) := by
  intro a w ha hw hm hd hle
  obtain ⟨k, hk, hk8, rfl, hi, hf, hc, hn⟩ := I.may hm
  rw [ix2 hk8] at ha
  rw [ix3 hk8] at hle ⊢
  rw [nI_clamp (show k < 2 ^ 31 by omega), hf] at hd hw hle ⊢
  rw [e_own hi] at hd hw
  subst ha
  rw [e_alike hi] at hd
  obtain ⟨s', m', hm', -, e2, -, e4⟩ := pull_sum hi hc.2.2.1 hn hc.2.2.2.1 hd
  rw [hw, e2, m_size hi, n_size hi (le_B hi hm')] at hle
  obtain ⟨s'', m'', -, -, -, h⟩ := e4 (Int64.not_le.mp hle)
  exact h
theorem d_restF (I : ST ob arr out om fz cj L N kd na fa ff cv) (x1 : Int32) : ∀ a z : Int64, a = (cv (((7 : Int32) * x1) + (2 : Int32)).toNatClampNeg) → z = (fX3_sizeOf (ff x1.toNatClampNeg) a) → vp_in x1 8 → ¬ (ff x1.toNatClampNeg) = 0 → vn_snl2d z = false ∧ WhOK z.toUInt64 := by
  intro a z ha hz hv hf0
  obtain ⟨k, hk8, rfl⟩ := vp_in_of hv (by decide)
  obtain ⟨hi, hf, hc⟩ := I.kd_ok k hk8
  rw [ix2 hk8] at ha
  rw [nI_clamp (show k < 2 ^ 31 by omega), hf] at hz hf0
  obtain ⟨s, m, hm, e⟩ := hc.2.2.1
  rw [ha, e, m_size hi, n_size hi (le_B hi hm)] at hz
  have h0 : kd k = 0 := by
    rcases i_cases hi with h | h
    · exact h
    · rw [h] at hf0; exact absurd (by decide) hf0
  rw [h0] at hm
  rw [hz]; exact rest_okF (s := s) hm
theorem d_restC (I : ST ob arr out om fz cj L N kd na fa ff cv) (x1 x2 : Int32) : ∀ a z : Int64, a = (cv (((7 : Int32) * x1) + (2 : Int32)).toNatClampNeg) → z = (fX3_sizeOf (ff x1.toNatClampNeg) a) → vp_in x1 8 → (ff x1.toNatClampNeg) = 0 → vn_sni2f z.toInt32 = false ∧ vf_n64 (FP.f2d z.toInt32.toUInt32) ∧ WhOK (FP.f2d z.toInt32.toUInt32) ∧ ∀ (b : Int32) (w : UInt64), w = fX3_whole (FP.f2d z.toInt32.toUInt32) b x2 → vf_n32 (FP.d2f w) := by
  intro a z ha hz hv hf0
  obtain ⟨k, hk8, rfl⟩ := vp_in_of hv (by decide)
  obtain ⟨hi, hf, hc⟩ := I.kd_ok k hk8
  rw [ix2 hk8] at ha
  rw [nI_clamp (show k < 2 ^ 31 by omega), hf] at hz hf0
  obtain ⟨s, m, hm, e⟩ := hc.2.2.1
  rw [ha, e, m_size hi, n_size hi (le_B hi hm)] at hz
  have h0 : kd k = 1 := by
    rcases i_cases hi with h | h
    · rw [h] at hf0; exact absurd hf0 (by decide)
    · exact h
  rw [h0] at hm
  rw [hz]; exact rest_okC hm x2
theorem d_ord (I : ST ob arr out om fz cj L N kd na fa ff cv) : ∀ x : Int32, vp_in x 8 → ff x.toNatClampNeg = 0 → vn_sni2f (cv (((7 : Int32) * x) + (2 : Int32)).toNatClampNeg).toInt32 = false ∧ vf_n64 (FP.f2d (cv (((7 : Int32) * x) + (2 : Int32)).toNatClampNeg).toInt32.toUInt32) := by
  intro x hv hf0
  obtain ⟨k, hk8, rfl⟩ := vp_in_of hv (by decide)
  obtain ⟨hi, hf, hc⟩ := I.kd_ok k hk8
  rw [nI_clamp (show k < 2 ^ 31 by omega), hf] at hf0
  rw [ix2 hk8]
  obtain ⟨s, m, hm, e⟩ := hc.2.2.1
  have h0 : kd k = 1 := by
    rcases i_cases hi with h | h
    · rw [h] at hf0; exact absurd hf0 (by decide)
    · exact h
  rw [h0] at hm e
  rw [e]
  obtain ⟨m', -, -, -, -, h5, h6⟩ := wide_eq (s := s) hm
  exact ⟨h5, h6⟩
end UC
