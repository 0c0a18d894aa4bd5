/-! the methods that do not move, class and model -/
theorem z4 : (0 : Nat) < 4 := by decide
theorem t4 : (2 : Nat) < 4 := by decide
theorem damp_eq {i : Nat} (h : i < 2) {made mvs tna kr kt : Int32} {twi kw : Int64} {fa : Nat → Option Nat} {ff : Nat → Int32} {cv : Nat → Int64} {k N : Nat} (hk : k < N) (hN : N ≤ 8) (hf : ff k = fI i) (hc : CK i cv k) (x2 : Int64) (c : Nat × Int64 × Int64) (hcd : c = fX2_damp made mvs twi tna fa i (cv (7 * k + 0)) (cv (7 * k + 1)) (cv (7 * k + 2)) (cv (7 * k + 3)) (cv (7 * k + 4)) (cv (7 * k + 5)) (cv (7 * k + 6)) (nI k) x2) :
    ∃ (r : Int64) (cv' : Nat → Int64), fX3_damp (nI N) mvs kr kt kw ff cv (nI k) x2 = (r, cv', nI c.1) ∧ c.1 < 4 ∧ (c.1 = 0 → c.2.1 = r ∧ c.2.2 = cv' (7 * k + 3) ∧ CK i cv' k ∧ ∀ j, ¬ j = 7 * k + 3 → cv' j = cv j) ∧ (¬ c.1 = 0 → cv' = cv) := by
  subst hcd
  unfold fX2_damp fX3_damp
  rw [mayy_in h hk hN hf, nf_eq, nI_clamp (show k < 2 ^ 31 by omega), hf, m_size h]
  by_cases c : fX0_isNumber i (fX0_trimmed i x2) = 0
  · rw [if_pos c, if_pos c, if_neg (show ¬ ((2 : Nat), (0 : Int64)).1 = 0 by decide), if_pos rfl]
    exact ⟨_, _, rfl, (by decide : 2 < 4), fun z => absurd z (by decide : ¬ 2 = 0), fun _ => rfl⟩
  · rw [if_neg c, if_neg c, if_pos (show ((0 : Nat), fX0_trimmed i x2).1 = 0 from rfl), if_neg (show ¬ ((1 : Int32), (0 : Int32)).1 = 0 by decide)]
    dsimp only
    unfold fX3_get fX3_set
    rw [ix3 (show k < 8 by omega), e_raw h]
    refine ⟨_, _, rfl, (by decide : 0 < 4), fun _ => ⟨?_, ?_, ?_, ?_⟩, fun z => absurd rfl z⟩
    · simp [vp_updL]
    · simp [vp_updL]
    · obtain ⟨s, m, hm, e⟩ := num_of h c
      have es : fX0_sizeOf i x2 = lN m := by rw [← e_raw h, e, n_size h (le_B h hm)]
      have u0 : ∀ w, ¬ w = 3 → w < 7 → vp_updL cv (7 * k + 3) (fX0_sizeOf i x2) (7 * k + w) = cv (7 * k + w) := fun w hw _ => by
        unfold vp_updL; rw [if_neg (by omega)]
      unfold CK
      rw [u0 0 (by decide) (by decide), u0 1 (by decide) (by decide), u0 2 (by decide) (by decide), u0 4 (by decide) (by decide), u0 5 (by decide) (by decide)]
      refine ⟨hc.1, hc.2.1, hc.2.2.1, ⟨m, hm, ?_⟩, hc.2.2.2.2.1, hc.2.2.2.2.2.1, hc.2.2.2.2.2.2⟩
      unfold vp_updL; rw [if_pos rfl]; exact es
    · intro j hj
      unfold vp_updL; rw [if_neg hj]
theorem unit_eq {i : Nat} (h : i < 2) {v : Int64} (hv : NumV i v) :
    fX0_unitOf i v = (if fX3_isNought (fI i) v = 0 then if fI i = 0 then if (0 : Int64) ≤ v then fX3_sided (fI i) (1065353216 : Int64) (0 : Int32) else fX3_sided (fI i) (1065353216 : Int64) (1 : Int32) else if (0 : Int64) ≤ v then fX3_sided (fI i) (4607182418800017408 : Int64) (0 : Int32) else fX3_sided (fI i) (4607182418800017408 : Int64) (1 : Int32) else v) := by
  obtain ⟨s, m, hm, rfl⟩ := hv
  have hm2 := le_B h hm
  unfold fX0_unitOf fX3_isNought
  rw [m_size h, n_size h hm2]
  by_cases c : lN m = 0
  · rw [if_pos c, if_pos c, if_neg (show ¬ (1 : Int32) = 0 by decide)]
  · rw [if_neg c, if_neg c, if_pos (show (0 : Int32) = 0 from rfl)]
    have nn := kN_nn h (s := s) hm2
    have hone : ∃ o, o < 2 ^ nB i ∧ kOne i = lN o ∧ (if fI i = 0 then (1065353216 : Int64) else 4607182418800017408) = lN o := by
      rcases i_cases h with rfl | rfl
      · exact ⟨4607182418800017408, by decide, by decide +kernel, by decide +kernel⟩
      · exact ⟨1065353216, by decide, by decide +kernel, by decide +kernel⟩
    obtain ⟨o, ho, e1, e2⟩ := hone
    have sd := m_sided h s ho
    rw [e1, ← kN_false i o, n_sideJ h h ho hm2, ← sd, ← e2]
    by_cases f : fI i = 0
    · rw [if_pos f, if_pos f]
      cases s
      · rw [if_pos (nn.mpr rfl)]; rfl
      · have q : ¬ (0 : Int64) ≤ lN (kN i true m) := fun z => by have := nn.mp z; simp at this
        rw [if_neg q]; rfl
    · rw [if_neg f, if_neg f]
      cases s
      · rw [if_pos (nn.mpr rfl)]; rfl
      · have q : ¬ (0 : Int64) ≤ lN (kN i true m) := fun z => by have := nn.mp z; simp at this
        rw [if_neg q]; rfl
theorem i32_9 {x : Int32} (h1 : ¬ x < 0) (h2 : x ≤ 8) : x = 0 ∨ x = 1 ∨ x = 2 ∨ x = 3 ∨ x = 4 ∨ x = 5 ∨ x = 6 ∨ x = 7 ∨ x = 8 := by
  obtain ⟨j, hj, rfl⟩ := nI_of2 (M := 8) (n := 8) rfl h1 h2
  rcases (show j = 0 ∨ j = 1 ∨ j = 2 ∨ j = 3 ∨ j = 4 ∨ j = 5 ∨ j = 6 ∨ j = 7 ∨ j = 8 by omega) with rfl | rfl | rfl | rfl | rfl | rfl | rfl | rfl | rfl
  · exact Or.inl rfl
  · exact Or.inr (Or.inl rfl)
  · exact Or.inr (Or.inr (Or.inl rfl))
  · exact Or.inr (Or.inr (Or.inr (Or.inl rfl)))
  · exact Or.inr (Or.inr (Or.inr (Or.inr (Or.inl rfl))))
  · exact Or.inr (Or.inr (Or.inr (Or.inr (Or.inr (Or.inl rfl)))))
  · exact Or.inr (Or.inr (Or.inr (Or.inr (Or.inr (Or.inr (Or.inl rfl))))))
  · exact Or.inr (Or.inr (Or.inr (Or.inr (Or.inr (Or.inr (Or.inr (Or.inl rfl)))))))
  · exact Or.inr (Or.inr (Or.inr (Or.inr (Or.inr (Or.inr (Or.inr (Or.inr rfl)))))))
theorem i32_no {x : Int32} (h : x < 0 ∨ ¬ x ≤ 8) : ¬ x = 0 ∧ ¬ x = 1 ∧ ¬ x = 2 ∧ ¬ x = 3 ∧ ¬ x = 4 ∧ ¬ x = 5 ∧ ¬ x = 6 ∧ ¬ x = 7 ∧ ¬ x = 8 := by
  refine ⟨?_, ?_, ?_, ?_, ?_, ?_, ?_, ?_, ?_⟩ <;> (intro z; rw [z] at h; rcases h with h | h <;> exact absurd h (by decide))
theorem read_eq {i : Nat} (h : i < 2) {made mvs tna kr kt : Int32} {twi kw : Int64} {fa : Nat → Option Nat} {ff : Nat → Int32} {cv : Nat → Int64} {k N : Nat} (hk : k < N) (hN : N ≤ 8) (hf : ff k = fI i) (hc : CK i cv k) (x2 : Int32) (c : Nat × Int64) (hcd : c = fX2_read made mvs twi tna fa i (cv (7 * k + 0)) (cv (7 * k + 1)) (cv (7 * k + 2)) (cv (7 * k + 3)) (cv (7 * k + 4)) (cv (7 * k + 5)) (cv (7 * k + 6)) (nI k) x2) :
    fX3_read (nI N) mvs kr kt kw ff cv (nI k) x2 = (c.2, nI c.1) ∧ c.1 < 4 := by
  subst hcd
  have hk8 : k < 8 := by omega
  unfold fX2_read fX3_read
  rw [th_in hk hN, nI_clamp (show k < 2 ^ 31 by omega), hf, if_neg (show ¬ ((1 : Int32), (0 : Int32)).1 = 0 by decide)]
  unfold fX3_get
  dsimp only
  rw [ix0 hk8, ix1 hk8, ix2 hk8, ix3 hk8, ix4 hk8, ix5 hk8, ix6 hk8, m_size h]
  have bad : x2 < 0 ∨ ¬ x2 ≤ 8 → _ := i32_no (x := x2)
  by_cases c : x2 < 0
  · obtain ⟨n0, n1, n2, n3, n4, n5, n6, n7, n8⟩ := bad (Or.inl c)
    simp only [c, n0, n1, n2, n3, n4, n5, n6, n7, n8, if_true, if_false]
    exact ⟨rfl, by first | exact z4 | exact t4⟩
  · by_cases d : x2 ≤ 8
    · have ue := unit_eq h hc.2.2.1
      rcases i32_9 c d with rfl | rfl | rfl | rfl | rfl | rfl | rfl | rfl | rfl
      · exact ⟨rfl, by first | exact z4 | exact t4⟩
      · exact ⟨rfl, by first | exact z4 | exact t4⟩
      · exact ⟨rfl, by first | exact z4 | exact t4⟩
      · exact ⟨rfl, by first | exact z4 | exact t4⟩
      · exact ⟨rfl, by first | exact z4 | exact t4⟩
      · exact ⟨rfl, by first | exact z4 | exact t4⟩
      · exact ⟨rfl, by first | exact z4 | exact t4⟩
      · exact ⟨rfl, by first | exact z4 | exact t4⟩
      · refine ⟨?_, z4⟩
        show (if fX3_isNought (fI i) (cv (7 * k + 2)) = 0 then _ else _) = (fX0_unitOf i (cv (7 * k + 2)), (0 : Int32))
        rw [ue]
        by_cases q1 : fX3_isNought (fI i) (cv (7 * k + 2)) = 0
        · rw [if_pos q1, if_pos q1]
          by_cases q2 : fI i = 0
          · rw [if_pos q2, if_pos q2]
            by_cases q3 : (0 : Int64) ≤ cv (7 * k + 2)
            · rw [if_pos q3, if_pos q3]
            · rw [if_neg q3, if_neg q3]
          · rw [if_neg q2, if_neg q2]
            by_cases q3 : (0 : Int64) ≤ cv (7 * k + 2)
            · rw [if_pos q3, if_pos q3]
            · rw [if_neg q3, if_neg q3]
        · rw [if_neg q1, if_neg q1]
    · obtain ⟨n0, n1, n2, n3, n4, n5, n6, n7, n8⟩ := bad (Or.inr d)
      simp only [c, d, n0, n1, n2, n3, n4, n5, n6, n7, n8, if_false]
      exact ⟨rfl, by first | exact z4 | exact t4⟩
theorem back_eq {i : Nat} (h : i < 2) {made mvs tna kr kt : Int32} {twi kw : Int64} {fa : Nat → Option Nat} {ff : Nat → Int32} {cv : Nat → Int64} {k N : Nat} (hk : k < N) (hN : N ≤ 8) (hf : ff k = fI i) (hc : CK i cv k) (c : Nat × Int64 × Int64 × Int64 × Int64) (hcd : c = fX2_back made mvs twi tna fa i (cv (7 * k + 0)) (cv (7 * k + 1)) (cv (7 * k + 2)) (cv (7 * k + 3)) (cv (7 * k + 4)) (cv (7 * k + 5)) (cv (7 * k + 6)) (nI k)) :
    ∃ cv' : Nat → Int64, fX3_back (nI N) mvs kr kt kw ff cv (nI k) = (cv', 0) ∧ c = (0, cv' (7 * k + 2), cv' (7 * k + 4), cv' (7 * k + 5), cv' (7 * k + 6)) ∧ CK i cv' k ∧ ∀ j, ¬ j = 7 * k + 2 → ¬ j = 7 * k + 4 → ¬ j = 7 * k + 5 → ¬ j = 7 * k + 6 → cv' j = cv j := by
  subst hcd
  unfold fX2_back fX3_back
  rw [th_in hk hN, if_neg (show ¬ ((1 : Int32), (0 : Int32)).1 = 0 by decide)]
  obtain ⟨cv', e1, e2, e3, e4⟩ := fr_eq (kn := nI N) (kc := mvs) (kr := kr) (kt := 0) (kw := kw) h (show k < 8 by omega) hf ⟨hc.1, hc.2.1, hc.2.2.2.1, hc.2.2.2.2.2.2⟩ (cv (7 * k + 2)) (cv (7 * k + 4)) (cv (7 * k + 5)) (cv (7 * k + 6))
  dsimp only
  rw [e1, e2]
  exact ⟨cv', rfl, rfl, e3, e4⟩
theorem fI_inj {i j : Nat} (h : i < 2) (hj : j < 2) : fI i = fI j ↔ i = j := by
  rcases i_cases h with rfl | rfl <;> rcases i_cases hj with rfl | rfl <;> decide
theorem rank_inj {i : Nat} (h : i < 2) {a b : Int64} (ha : NumV i a) (hb : NumV i b) (e : fX0_rankOf i a = fX0_rankOf i b) : a = b := by
  obtain ⟨s, m, hm, rfl⟩ := ha
  obtain ⟨t, n, hn, rfl⟩ := hb
  have e1 := n_rank h (s := s) (le_B h hm)
  have e2 := n_rank h (s := t) (le_B h hn)
  rw [e, e2] at e1
  cases s <;> cases t <;> simp at e1
  · have : n = m := by omega
    rw [this]
  · omega
  · omega
  · have : n = m := by omega
    rw [this]
theorem min_le (a b : Int64) : (if a < b then a else b) = if a ≤ b then a else b := by
  by_cases c : a < b
  · rw [if_pos c, if_pos (Int64.le_of_lt c)]
  · rw [if_neg c]
    by_cases d : a ≤ b
    · rw [if_pos d]; exact Int64.le_antisymm (Int64.not_lt.mp c) d
    · rw [if_neg d]
theorem max_le (a b : Int64) : (if a < b then b else a) = if a ≤ b then b else a := by
  by_cases c : a < b
  · rw [if_pos c, if_pos (Int64.le_of_lt c)]
  · rw [if_neg c]
    by_cases d : a ≤ b
    · rw [if_pos d]; exact Int64.le_antisymm d (Int64.not_lt.mp c)
    · rw [if_neg d]
theorem i32_4 {x : Int32} (h1 : ¬ x < 0) (h2 : x ≤ 3) : x = 0 ∨ x = 1 ∨ x = 2 ∨ x = 3 := by
  obtain ⟨j, hj, rfl⟩ := nI_of2 (M := 3) (n := 3) rfl h1 h2
  rcases (show j = 0 ∨ j = 1 ∨ j = 2 ∨ j = 3 by omega) with rfl | rfl | rfl | rfl
  · exact Or.inl rfl
  · exact Or.inr (Or.inl rfl)
  · exact Or.inr (Or.inr (Or.inl rfl))
  · exact Or.inr (Or.inr (Or.inr rfl))
theorem i32_no4 {x : Int32} (h : x < 0 ∨ ¬ x ≤ 3) : ¬ x = 0 ∧ ¬ x = 1 ∧ ¬ x = 2 ∧ ¬ x = 3 := by
  refine ⟨?_, ?_, ?_, ?_⟩ <;> (intro z; rw [z] at h; rcases h with h | h <;> exact absurd h (by decide))
theorem btw_eq {i j : Nat} (h : i < 2) (hj : j < 2) {made mvs tna kr kt : Int32} {twi kw : Int64} {fa : Nat → Option Nat} {ff : Nat → Int32} {cv : Nat → Int64} {k l N : Nat} (hk : k < N) (hl : l < N) (hN : N ≤ 8) (hf : ff k = fI i) (hf2 : ff l = fI j) (hc : CK i cv k) (hc2 : CK j cv l) (x3 : Int32) (c : Nat × Int64) (hcd : c = fX2_between made mvs twi tna fa i (cv (7 * k + 0)) (cv (7 * k + 1)) (cv (7 * k + 2)) (cv (7 * k + 3)) (cv (7 * k + 4)) (cv (7 * k + 5)) (cv (7 * k + 6)) j (cv (7 * l + 0)) (cv (7 * l + 1)) (cv (7 * l + 2)) (cv (7 * l + 3)) (cv (7 * l + 4)) (cv (7 * l + 5)) (cv (7 * l + 6)) (nI k) (nI l) x3) :
    fX3_between (nI N) mvs kr kt kw ff cv (nI k) (nI l) x3 = (c.2, nI c.1) ∧ c.1 < 4 := by
  subst hcd
  have hk8 : k < 8 := by omega
  have hl8 : l < 8 := by omega
  unfold fX2_between fX3_between
  rw [th_in hk hN, th_in hl hN, nI_clamp (show k < 2 ^ 31 by omega), nI_clamp (show l < 2 ^ 31 by omega), hf, hf2, if_neg (show ¬ ((1 : Int32), (0 : Int32)).1 = 0 by decide), if_neg (show ¬ ((1 : Int32), (0 : Int32)).1 = 0 by decide)]
  by_cases e : i = j
  · subst e
    rw [if_pos rfl, if_pos rfl]
    by_cases c : x3 < 0
    · obtain ⟨n0, n1, n2, n3⟩ := i32_no4 (x := x3) (Or.inl c)
      rw [if_pos c, if_neg n0, if_neg n1, if_neg n2, if_neg n3]
      exact ⟨rfl, by first | exact z4 | exact t4⟩
    · rw [if_neg c]
      by_cases d : x3 ≤ 3
      · rw [if_pos d]
        unfold fX3_get
        rw [ix2 hk8, ix2 hl8]
        dsimp only
        rw [e_rank h hc.2.2.1, e_rank h hc2.2.2.1, m_size h, m_size h, min_le, max_le]
        unfold fX0_lesserOf fX0_greaterOf fX0_isBelow
        have ri := rank_inj h hc.2.2.1 hc2.2.2.1
        generalize cv (7 * k + 2) = a at *
        generalize cv (7 * l + 2) = b at *
        by_cases r1 : fX0_rankOf i b ≤ fX0_rankOf i a
        · rw [if_pos r1]
          rcases i32_4 c d with rfl | rfl | rfl | rfl
          · refine ⟨?_, z4⟩
            by_cases r2 : fX0_rankOf i a ≤ fX0_rankOf i b
            · have := ri (Int64.le_antisymm r2 r1)
              subst this
              simp [nI_0]
            · simp [r2, nI_0]
          · refine ⟨?_, z4⟩
            simp [r1, nI_0]
          · refine ⟨?_, z4⟩
            by_cases r3 : fX0_sizeOf i b ≤ fX0_sizeOf i a <;> simp [r3, nI_0]
          · refine ⟨?_, z4⟩
            by_cases r3 : fX0_sizeOf i b ≤ fX0_sizeOf i a <;> simp [r3, nI_0]
        · have r2 : fX0_rankOf i a ≤ fX0_rankOf i b := Int64.le_of_lt (Int64.not_le.mp r1)
          rw [if_neg r1]
          rcases i32_4 c d with rfl | rfl | rfl | rfl
          · refine ⟨?_, z4⟩
            simp [r2, nI_0]
          · refine ⟨?_, z4⟩
            simp [r1, nI_0]
          · refine ⟨?_, z4⟩
            by_cases r3 : fX0_sizeOf i b ≤ fX0_sizeOf i a <;> simp [r3, nI_0]
          · refine ⟨?_, z4⟩
            by_cases r3 : fX0_sizeOf i b ≤ fX0_sizeOf i a <;> simp [r3, nI_0]
      · obtain ⟨n0, n1, n2, n3⟩ := i32_no4 (x := x3) (Or.inr d)
        rw [if_neg d, if_neg n0, if_neg n1, if_neg n2, if_neg n3]
        exact ⟨rfl, by first | exact z4 | exact t4⟩
  · rw [if_neg e, if_neg (fun z => e ((fI_inj h hj).mp z))]
    exact ⟨rfl, by first | exact z4 | exact t4⟩
theorem btw_s {i : Nat} (h : i < 2) {made mvs tna kr kt : Int32} {twi kw : Int64} {fa : Nat → Option Nat} {ff : Nat → Int32} {cv : Nat → Int64} {k N : Nat} (hk : k < N) (hN : N ≤ 8) (hf : ff k = fI i) (hc : CK i cv k) (x3 : Int32) (c : Nat × Int64) (hcd : c = fX2_between_s made mvs twi tna fa i (cv (7 * k + 0)) (cv (7 * k + 1)) (cv (7 * k + 2)) (cv (7 * k + 3)) (cv (7 * k + 4)) (cv (7 * k + 5)) (cv (7 * k + 6)) (nI k) (nI k) x3) :
    fX3_between (nI N) mvs kr kt kw ff cv (nI k) (nI k) x3 = (c.2, nI c.1) ∧ c.1 < 4 :=
  btw_eq (made := made) (twi := twi) (tna := tna) (fa := fa) h h hk hk hN hf hf hc hc x3 c hcd
/-- a needle's number as a fine one -/
theorem wide_num {i : Nat} (h : i < 2) {a0 a1 a2 a3 a4 a5 v : Int64} (hv : NumV i v) : ∃ w, NumV 0 w ∧ fX1_fineValue i a0 a1 v a2 a3 a4 a5 = w ∧ fX3_wideBits (fI i) v = w := by
  rcases i_cases h with rfl | rfl
  · exact ⟨v, hv, rfl, rfl⟩
  · obtain ⟨s, m, hm, rfl⟩ := hv
    obtain ⟨m', h1, h2, -, h3, -, -⟩ := wide_eq (s := s) hm
    exact ⟨_, ⟨s, m', h1, rfl⟩, h2, h3⟩
theorem ord_eq {i j : Nat} (h : i < 2) (hj : j < 2) {made mvs tna kr kt : Int32} {twi kw : Int64} {fa : Nat → Option Nat} {ff : Nat → Int32} {cv : Nat → Int64} {k l N : Nat} (hk : k < N) (hl : l < N) (hN : N ≤ 8) (hf : ff k = fI i) (hf2 : ff l = fI j) (hc : CK i cv k) (hc2 : CK j cv l) (c : Nat × Int32) (hcd : c = fX2_order made mvs twi tna fa i (cv (7 * k + 0)) (cv (7 * k + 1)) (cv (7 * k + 2)) (cv (7 * k + 3)) (cv (7 * k + 4)) (cv (7 * k + 5)) (cv (7 * k + 6)) j (cv (7 * l + 0)) (cv (7 * l + 1)) (cv (7 * l + 2)) (cv (7 * l + 3)) (cv (7 * l + 4)) (cv (7 * l + 5)) (cv (7 * l + 6)) (nI k) (nI l)) :
    fX3_order (nI N) mvs kr kt kw ff cv (nI k) (nI l) = (c.2, nI c.1) ∧ c.1 < 4 := by
  subst hcd
  have hk8 : k < 8 := by omega
  have hl8 : l < 8 := by omega
  unfold fX2_order fX3_order
  rw [th_in hk hN, th_in hl hN, nI_clamp (show k < 2 ^ 31 by omega), nI_clamp (show l < 2 ^ 31 by omega), hf, hf2, if_neg (show ¬ ((1 : Int32), (0 : Int32)).1 = 0 by decide), if_neg (show ¬ ((1 : Int32), (0 : Int32)).1 = 0 by decide)]
  unfold fX3_get
  rw [ix2 hk8, ix2 hl8]
  obtain ⟨a, na, ea, ea2⟩ := wide_num (a0 := cv (7 * k + 0)) (a1 := cv (7 * k + 1)) (a2 := cv (7 * k + 3)) (a3 := cv (7 * k + 4)) (a4 := cv (7 * k + 5)) (a5 := cv (7 * k + 6)) h hc.2.2.1
  obtain ⟨b, nb, eb, eb2⟩ := wide_num (a0 := cv (7 * l + 0)) (a1 := cv (7 * l + 1)) (a2 := cv (7 * l + 3)) (a3 := cv (7 * l + 4)) (a4 := cv (7 * l + 5)) (a5 := cv (7 * l + 6)) hj hc2.2.2.1
  rw [ea, eb, ea2, eb2]
  dsimp only
  have h1 : (1 : Int32) = fI 0 := rfl
  rw [h1, e_rank (by decide) na, e_rank (by decide) nb]
  have ri := rank_inj (i := 0) (by decide) na nb
  unfold fX0_isBelow
  by_cases r1 : fX0_rankOf 0 b ≤ fX0_rankOf 0 a
  · rw [if_pos r1, if_pos r1, if_pos rfl]
    by_cases r2 : fX0_rankOf 0 a ≤ fX0_rankOf 0 b
    · rw [if_pos r2, if_pos (ri (Int64.le_antisymm r2 r1))]
      exact ⟨rfl, by first | exact z4 | exact t4⟩
    · rw [if_neg r2, if_neg (fun z => r2 (by rw [z]; exact Int64.le_refl _))]
      exact ⟨rfl, by first | exact z4 | exact t4⟩
  · rw [if_neg r1, if_neg r1, if_neg (show ¬ (1 : Int32) = 0 by decide)]
    exact ⟨rfl, by first | exact z4 | exact t4⟩
theorem ord_s {i : Nat} (h : i < 2) {made mvs tna kr kt : Int32} {twi kw : Int64} {fa : Nat → Option Nat} {ff : Nat → Int32} {cv : Nat → Int64} {k N : Nat} (hk : k < N) (hN : N ≤ 8) (hf : ff k = fI i) (hc : CK i cv k) (c : Nat × Int32) (hcd : c = fX2_order_s made mvs twi tna fa i (cv (7 * k + 0)) (cv (7 * k + 1)) (cv (7 * k + 2)) (cv (7 * k + 3)) (cv (7 * k + 4)) (cv (7 * k + 5)) (cv (7 * k + 6)) (nI k) (nI k)) :
    fX3_order (nI N) mvs kr kt kw ff cv (nI k) (nI k) = (c.2, nI c.1) ∧ c.1 < 4 :=
  ord_eq (made := made) (twi := twi) (tna := tna) (fa := fa) h h hk hk hN hf hf hc hc c hcd
