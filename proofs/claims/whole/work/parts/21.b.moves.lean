/-! moves -/
def CK (i : Nat) (cv : Nat → Int64) (k : Nat) : Prop := NumV i (cv (7 * k + 0)) ∧ NumV i (cv (7 * k + 1)) ∧ NumV i (cv (7 * k + 2)) ∧ SzV i (cv (7 * k + 3)) ∧ NumV i (cv (7 * k + 4)) ∧ NumV i (cv (7 * k + 5)) ∧ fX0_rankOf i (cv (7 * k + 0)) ≤ fX0_rankOf i (cv (7 * k + 1))
/-- the needle's number after a move: by rank -/
def wiN (i : Nat) (cv : Nat → Int64) (k : Nat) (x : Int64) : Int64 := if fX0_rankOf i (cv (7 * k + 0)) ≤ fX0_rankOf i x then if fX0_rankOf i x ≤ fX0_rankOf i (cv (7 * k + 1)) then x else cv (7 * k + 1) else cv (7 * k + 0)
def beN (i : Nat) (cv : Nat → Int64) (k : Nat) (w : Int64) : Nat → Int64 := fun j =>
  if j = 7 * k + 2 then w else if j = 7 * k + 4 then (if fX0_rankOf i w ≤ fX0_rankOf i (cv (7 * k + 4)) then cv (7 * k + 4) else w) else if j = 7 * k + 5 then (if fX0_rankOf i (cv (7 * k + 5)) ≤ fX0_rankOf i w then cv (7 * k + 5) else w) else if j = 7 * k + 6 then (if fX0_sizeOf i w ≤ cv (7 * k + 6) then cv (7 * k + 6) else fX0_sizeOf i w) else cv j
def frN (i : Nat) (cv : Nat → Int64) (k : Nat) (w : Int64) : Nat → Int64 := fun j =>
  if j = 7 * k + 2 then w else if j = 7 * k + 4 then w else if j = 7 * k + 5 then w else if j = 7 * k + 6 then fX0_sizeOf i w else cv j
theorem wi_num {i : Nat} {cv : Nat → Int64} {k : Nat} {x : Int64} (hc : CK i cv k) (hx : NumV i x) : NumV i (wiN i cv k x) := by
  unfold wiN
  split
  · split
    · exact hx
    · exact hc.2.1
  · exact hc.1
theorem c_within {i : Nat} {cv : Nat → Int64} {k : Nat} {x a3 a4 a5 a6 a2 : Int64} (hr : fX0_rankOf i (cv (7 * k + 0)) ≤ fX0_rankOf i (cv (7 * k + 1))) : fX1_withinLimits i (cv (7 * k + 0)) (cv (7 * k + 1)) a2 a3 a4 a5 a6 x = wiN i cv k x := by
  unfold fX1_withinLimits fX0_lesserOf fX0_greaterOf fX0_isBelow wiN
  generalize cv (7 * k + 0) = lo at *
  generalize cv (7 * k + 1) = hi at *
  by_cases c1 : fX0_rankOf i lo ≤ fX0_rankOf i x
  · by_cases c2 : fX0_rankOf i x ≤ fX0_rankOf i hi <;> simp [c1, c2]
  · simp [c1, hr]
theorem ixN {k : Nat} (hk : k < 8) {x : Int32} {w : Nat} (hx : x = nI w) (hw : w < 7) : (((7 : Int32) * nI k) + x).toNatClampNeg = 7 * k + w := by
  have h7 : (7 : Int32) = nI 7 := rfl
  rw [hx, h7, pk_mul, nI_add, nI_clamp (by omega)]
theorem ix0 {k : Nat} (hk : k < 8) : (((7 : Int32) * nI k) + (0 : Int32)).toNatClampNeg = 7 * k + 0 := ixN hk (w := 0) rfl (by decide)
theorem ix1 {k : Nat} (hk : k < 8) : (((7 : Int32) * nI k) + (1 : Int32)).toNatClampNeg = 7 * k + 1 := ixN hk (w := 1) rfl (by decide)
theorem ix2 {k : Nat} (hk : k < 8) : (((7 : Int32) * nI k) + (2 : Int32)).toNatClampNeg = 7 * k + 2 := ixN hk (w := 2) rfl (by decide)
theorem ix3 {k : Nat} (hk : k < 8) : (((7 : Int32) * nI k) + (3 : Int32)).toNatClampNeg = 7 * k + 3 := ixN hk (w := 3) rfl (by decide)
theorem ix4 {k : Nat} (hk : k < 8) : (((7 : Int32) * nI k) + (4 : Int32)).toNatClampNeg = 7 * k + 4 := ixN hk (w := 4) rfl (by decide)
theorem ix5 {k : Nat} (hk : k < 8) : (((7 : Int32) * nI k) + (5 : Int32)).toNatClampNeg = 7 * k + 5 := ixN hk (w := 5) rfl (by decide)
theorem ix6 {k : Nat} (hk : k < 8) : (((7 : Int32) * nI k) + (6 : Int32)).toNatClampNeg = 7 * k + 6 := ixN hk (w := 6) rfl (by decide)
theorem m_within {i : Nat} (h : i < 2) {kn kc kr kt : Int32} {kw : Int64} {ff : Nat → Int32} {cv : Nat → Int64} {k : Nat} (hk : k < 8) (hf : ff k = fI i) {x : Int64} (hc : CK i cv k) (hx : NumV i x) : fX3_within kn kc kr kt kw ff cv (nI k) x = wiN i cv k x := by
  unfold fX3_within fX3_get wiN
  rw [nI_clamp (show k < 2 ^ 31 by omega), hf, ix0 hk, ix1 hk, e_rank h hc.1, e_rank h hx, e_rank h hc.2.1]
theorem be_ext {f g : Nat → Int64} {k : Nat} (h2 : f (7 * k + 2) = g (7 * k + 2)) (h4 : f (7 * k + 4) = g (7 * k + 4)) (h5 : f (7 * k + 5) = g (7 * k + 5)) (h6 : f (7 * k + 6) = g (7 * k + 6)) (hr : ∀ j, ¬ j = 7 * k + 2 → ¬ j = 7 * k + 4 → ¬ j = 7 * k + 5 → ¬ j = 7 * k + 6 → f j = g j) : f = g := by
  funext j
  by_cases j2 : j = 7 * k + 2
  · rw [j2]; exact h2
  · by_cases j4 : j = 7 * k + 4
    · rw [j4]; exact h4
    · by_cases j5 : j = 7 * k + 5
      · rw [j5]; exact h5
      · by_cases j6 : j = 7 * k + 6
        · rw [j6]; exact h6
        · exact hr j j2 j4 j5 j6
theorem m_becomes {i : Nat} (h : i < 2) {kn kc kr kt : Int32} {kw : Int64} {ff : Nat → Int32} {cv : Nat → Int64} {k : Nat} (hk : k < 8) (hf : ff k = fI i) {x : Int64} (hc : CK i cv k) (hx : NumV i x) : fX3_becomes kn kc kr kt kw ff cv (nI k) x = (wiN i cv k x, beN i cv k (wiN i cv k x), kc + 1) := by
  have hw := wi_num hc hx
  unfold fX3_becomes
  rw [m_within h hk hf hc hx]
  generalize wiN i cv k x = w at *
  unfold fX3_get fX3_set
  rw [nI_clamp (show k < 2 ^ 31 by omega), hf, ix2 hk, ix4 hk, ix5 hk, ix6 hk, m_size h, e_rank h hw]
  have n42 : ¬ 7 * k + 4 = 7 * k + 2 := by omega
  have n52 : ¬ 7 * k + 5 = 7 * k + 2 := by omega
  have n54 : ¬ 7 * k + 5 = 7 * k + 4 := by omega
  have n62 : ¬ 7 * k + 6 = 7 * k + 2 := by omega
  have n64 : ¬ 7 * k + 6 = 7 * k + 4 := by omega
  have n65 : ¬ 7 * k + 6 = 7 * k + 5 := by omega
  simp only [vp_updL, if_neg n42, if_neg n52, if_neg n54, if_neg n62, if_neg n64, if_neg n65]
  rw [e_rank h hc.2.2.2.2.1, e_rank h hc.2.2.2.2.2.1]
  have fin : ∀ (f : Nat → Int64), f = beN i cv k w → ((w, f, kc + 1) : Int64 × (Nat → Int64) × Int32) = (w, beN i cv k w, kc + 1) := fun f hf => by rw [hf]
  by_cases c1 : fX0_rankOf i w ≤ fX0_rankOf i (cv (7 * k + 4)) <;> by_cases c2 : fX0_rankOf i (cv (7 * k + 5)) ≤ fX0_rankOf i w <;> by_cases c3 : fX0_sizeOf i w ≤ cv (7 * k + 6) <;> simp only [c1, c2, c3, if_true, if_false] <;> refine fin _ (be_ext (k := k) ?_ ?_ ?_ ?_ (fun j h2 h4 h5 h6 => ?_)) <;> simp [vp_updL, beN, *]
/-- a move: class and model -/
theorem mv_eq {i : Nat} (h : i < 2) {kn kc kr kt : Int32} {kw : Int64} {ff : Nat → Int32} {cv : Nat → Int64} {k : Nat} (hk : k < 8) (hf : ff k = fI i) {x : Int64} (hc : CK i cv k) (hx : NumV i x) :
    ∃ cv' : Nat → Int64, fX3_becomes kn kc kr kt kw ff cv (nI k) x = (cv' (7 * k + 2), cv', kc + 1) ∧ fX1_moveTo i (cv (7 * k + 0)) (cv (7 * k + 1)) (cv (7 * k + 2)) (cv (7 * k + 3)) (cv (7 * k + 4)) (cv (7 * k + 5)) (cv (7 * k + 6)) x = (cv' (7 * k + 2), cv' (7 * k + 4), cv' (7 * k + 5), cv' (7 * k + 6)) ∧ CK i cv' k ∧ ∀ j, ¬ j = 7 * k + 2 → ¬ j = 7 * k + 4 → ¬ j = 7 * k + 5 → ¬ j = 7 * k + 6 → cv' j = cv j := by
  have hw := wi_num hc hx
  obtain ⟨w, ew⟩ : ∃ w, w = wiN i cv k x := ⟨_, rfl⟩
  have e2 : beN i cv k w (7 * k + 2) = w := by simp [beN]
  have e4 : beN i cv k w (7 * k + 4) = if fX0_rankOf i w ≤ fX0_rankOf i (cv (7 * k + 4)) then cv (7 * k + 4) else w := by simp [beN]
  have e5 : beN i cv k w (7 * k + 5) = if fX0_rankOf i (cv (7 * k + 5)) ≤ fX0_rankOf i w then cv (7 * k + 5) else w := by simp [beN]
  have e6 : beN i cv k w (7 * k + 6) = if fX0_sizeOf i w ≤ cv (7 * k + 6) then cv (7 * k + 6) else fX0_sizeOf i w := by simp [beN]
  have er : ∀ j, ¬ j = 7 * k + 2 → ¬ j = 7 * k + 4 → ¬ j = 7 * k + 5 → ¬ j = 7 * k + 6 → beN i cv k w j = cv j := fun j h2 h4 h5 h6 => by simp [beN, h2, h4, h5, h6]
  rw [← ew] at hw
  refine ⟨beN i cv k w, ?_, ?_, ?_, er⟩
  · rw [m_becomes h hk hf hc hx, ← ew, e2]
  · unfold fX1_moveTo
    rw [c_within hc.2.2.2.2.2.2, ← ew, e2, e4, e5, e6]
    unfold fX0_greaterOf fX0_lesserOf fX0_isBelow
    have s1 : (if fX0_sizeOf i w < cv (7 * k + 6) then cv (7 * k + 6) else fX0_sizeOf i w) = if fX0_sizeOf i w ≤ cv (7 * k + 6) then cv (7 * k + 6) else fX0_sizeOf i w := by
      generalize fX0_sizeOf i w = a
      generalize cv (7 * k + 6) = b
      by_cases c : a < b
      · rw [if_pos c, if_pos (Int64.le_of_lt c)]
      · rw [if_neg c]
        by_cases d : a ≤ b
        · rw [if_pos d]
          exact Int64.le_antisymm d (Int64.not_lt.mp c)
        · rw [if_neg d]
    rw [s1]
    by_cases c1 : fX0_rankOf i w ≤ fX0_rankOf i (cv (7 * k + 4)) <;> by_cases c2 : fX0_rankOf i (cv (7 * k + 5)) ≤ fX0_rankOf i w <;> simp [c1, c2]
  · obtain ⟨h0, h1, h2, h3, h4, h5, h6⟩ := hc
    unfold CK
    rw [er (7 * k + 0) (by omega) (by omega) (by omega) (by omega), er (7 * k + 1) (by omega) (by omega) (by omega) (by omega), er (7 * k + 3) (by omega) (by omega) (by omega) (by omega), e2, e4, e5]
    refine ⟨h0, h1, hw, h3, ?_, ?_, h6⟩
    · split
      · exact h4
      · exact hw
    · split
      · exact h5
      · exact hw
theorem num_zero {i : Nat} (h : i < 2) : NumV i 0 := ⟨false, 0, Nat.zero_le _, by simp [kN]; rfl⟩
/-- starting again: class and model -/
theorem fr_eq {i : Nat} (h : i < 2) {kn kc kr kt : Int32} {kw : Int64} {ff : Nat → Int32} {cv : Nat → Int64} {k : Nat} (hk : k < 8) (hf : ff k = fI i) (hc : NumV i (cv (7 * k + 0)) ∧ NumV i (cv (7 * k + 1)) ∧ SzV i (cv (7 * k + 3)) ∧ fX0_rankOf i (cv (7 * k + 0)) ≤ fX0_rankOf i (cv (7 * k + 1))) (a2 a4 a5 a6 : Int64) :
    ∃ cv' : Nat → Int64, fX3_fresh kn kc kr kt kw ff cv (nI k) = cv' ∧ fX1_startAgain i (cv (7 * k + 0)) (cv (7 * k + 1)) a2 (cv (7 * k + 3)) a4 a5 a6 = (cv' (7 * k + 2), cv' (7 * k + 4), cv' (7 * k + 5), cv' (7 * k + 6)) ∧ CK i cv' k ∧ ∀ j, ¬ j = 7 * k + 2 → ¬ j = 7 * k + 4 → ¬ j = 7 * k + 5 → ¬ j = 7 * k + 6 → cv' j = cv j := by
  have hx := num_zero h
  obtain ⟨w, ew⟩ : ∃ w, w = wiN i cv k 0 := ⟨_, rfl⟩
  have hw : NumV i w := by
    rw [ew]; unfold wiN
    split
    · split
      · exact hx
      · exact hc.2.1
    · exact hc.1
  have hmw : fX3_within kn kc kr kt kw ff cv (nI k) 0 = w := by
    rw [ew]
    unfold fX3_within fX3_get wiN
    rw [nI_clamp (show k < 2 ^ 31 by omega), hf, ix0 hk, ix1 hk, e_rank h hc.1, e_rank h hx, e_rank h hc.2.1]
  have e2 : frN i cv k w (7 * k + 2) = w := by simp [frN]
  have e4 : frN i cv k w (7 * k + 4) = w := by simp [frN]
  have e5 : frN i cv k w (7 * k + 5) = w := by simp [frN]
  have e6 : frN i cv k w (7 * k + 6) = fX0_sizeOf i w := by simp [frN]
  have er : ∀ j, ¬ j = 7 * k + 2 → ¬ j = 7 * k + 4 → ¬ j = 7 * k + 5 → ¬ j = 7 * k + 6 → frN i cv k w j = cv j := fun j h2 h4 h5 h6 => by simp [frN, h2, h4, h5, h6]
  refine ⟨frN i cv k w, ?_, ?_, ?_, er⟩
  · unfold fX3_fresh
    rw [hmw]
    unfold fX3_set
    dsimp only
    rw [nI_clamp (show k < 2 ^ 31 by omega), hf, ix2 hk, ix4 hk, ix5 hk, ix6 hk, m_size h]
    refine be_ext (k := k) ?_ ?_ ?_ ?_ (fun j h2 h4 h5 h6 => ?_) <;> simp [vp_updL, frN, *]
  · unfold fX1_startAgain
    rw [c_within hc.2.2.2, ← ew, e2, e4, e5, e6]
  · obtain ⟨h0, h1, h3, h6⟩ := hc
    unfold CK
    rw [er (7 * k + 0) (by omega) (by omega) (by omega) (by omega), er (7 * k + 1) (by omega) (by omega) (by omega) (by omega), er (7 * k + 3) (by omega) (by omega) (by omega) (by omega), e2, e4, e5]
    exact ⟨h0, h1, hw, h3, hw, hw, h6⟩
