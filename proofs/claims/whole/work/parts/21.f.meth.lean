/-! tally, needle, count: class and model -/
theorem abs_le (x : Int64) : (if 0 < x then x else -x) = if 0 ≤ x then x else -x := by
  by_cases c : 0 < x
  · rw [if_pos c, if_pos (Int64.le_of_lt c)]
  · rw [if_neg c]
    by_cases d : 0 ≤ x
    · rw [if_pos d]
      have : x = 0 := Int64.le_antisymm (Int64.not_lt.mp c) d
      rw [this]; decide
    · rw [if_neg d]
theorem grown_eq (x : Int32) (a b : Int64) : fX3_grown x a b = fX2_tallied x a b := by
  unfold fX3_grown fX2_tallied
  rw [abs_le a, abs_le b, min_le b a, max_le b a]
  have mx : (if a ≤ b then b else a) = if b ≤ a then a else b := by
    by_cases c : a ≤ b
    · by_cases d : b ≤ a
      · rw [if_pos c, if_pos d]; exact Int64.le_antisymm d c
      · rw [if_pos c, if_neg d]
    · have d : b ≤ a := Int64.le_of_lt (Int64.not_le.mp c)
      rw [if_neg c, if_pos d]
  rw [mx]
  by_cases z : (0 : Int64) ≤ b <;> by_cases z2 : (0 : Int64) ≤ a <;> simp only [z, z2, if_true, if_false]
theorem tally_eq {made mvs tna kn kc kt : Int32} {twi : Int64} {ff : Nat → Int32} {cv : Nat → Int64} (x1 x2 : Int32) (x3 : Int64) (c : Nat × Int64 × Int64 × Int32) (hcd : c = fX2_tally made mvs twi tna x1 x2 x3) :
    fX3_tally kn kc tna kt twi ff cv x1 x2 x3 = (c.2.1, c.2.2.2, nI (c.1 - 1), c.2.2.1) ∧ (c.1 = 0 ∨ c.1 = 2) := by
  subst hcd
  unfold fX2_tally fX3_tally
  rw [grown_eq, grown_eq]
  by_cases c1 : x2 < 0
  · rw [if_pos c1, if_pos c1]; exact ⟨rfl, Or.inr rfl⟩
  · rw [if_neg c1, if_neg c1]
    by_cases c2 : x2 ≤ 4
    · rw [if_pos c2, if_pos c2]
      by_cases c3 : x1 = 0
      · rw [if_pos c3, if_pos c3]; exact ⟨rfl, Or.inl rfl⟩
      · rw [if_neg c3, if_neg c3]; exact ⟨rfl, Or.inl rfl⟩
    · rw [if_neg c2, if_neg c2]; exact ⟨rfl, Or.inr rfl⟩
theorem tally_no {made mvs tna : Int32} {twi : Int64} (x1 x2 : Int32) (x3 : Int64) (h : ¬ (fX2_tally made mvs twi tna x1 x2 x3).1 = 0) : (fX2_tally made mvs twi tna x1 x2 x3).2.2 = (twi, tna) := by
  unfold fX2_tally at h ⊢
  by_cases c1 : x2 < 0
  · rw [if_pos c1]
  · rw [if_neg c1] at h ⊢
    by_cases c2 : x2 ≤ 4
    · rw [if_pos c2] at h ⊢
      by_cases c3 : x1 = 0
      · rw [if_pos c3] at h; exact absurd rfl h
      · rw [if_neg c3] at h; exact absurd rfl h
    · rw [if_neg c2]
theorem needle_eq {i : Nat} (h : i < 2) {kc kr kt : Int32} {kw : Int64} {ff : Nat → Int32} {cv : Nat → Int64} {N : Nat} (hN : N ≤ 8) (x2 x3 : Int64) (c : Nat) (hcd : c = fX2_needle i (nI N) x2 x3) :
    (c = 0 → N < 8 ∧ ∃ cv' : Nat → Int64, fX3_needle (nI N) kc kr kt kw ff cv (fI i) x2 x3 = (nI N, upd ff N (fI i), cv', nI (N + 1), 0) ∧ CK i cv' N ∧ (∀ j, j < 7 * N ∨ 7 * N + 7 ≤ j → cv' j = cv j) ∧ (fX2_numberFrom i x2).2 = cv' (7 * N + 0) ∧ (fX2_numberFrom i x3).2 = cv' (7 * N + 1) ∧ kInf i = cv' (7 * N + 3) ∧ fX1_startAgain i ((fX2_numberFrom i x2).2) ((fX2_numberFrom i x3).2) 0 (kInf i) 0 0 0 = (cv' (7 * N + 2), cv' (7 * N + 4), cv' (7 * N + 5), cv' (7 * N + 6)))
    ∧ (¬ c = 0 → (c = 2 ∨ c = 3) ∧ fX3_needle (nI N) kc kr kt kw ff cv (fI i) x2 x3 = (0, ff, cv, nI N, nI (c - 1))) := by
  subst hcd
  unfold fX2_needle fX3_needle
  rw [e_own h, e_own h, e_isn h, e_isn h, nf_eq, nf_eq]
  by_cases c1 : fX0_isNumber i (fX0_trimmed i x2) = 0
  · rw [if_pos c1, if_pos c1, if_neg (show ¬ ((2 : Nat), (0 : Int64)).1 = 0 by decide)]
    exact ⟨fun z => absurd z (by decide : ¬ 2 = 0), fun _ => ⟨Or.inl rfl, rfl⟩⟩
  · rw [if_neg c1, if_neg c1, if_pos (show ((0 : Nat), fX0_trimmed i x2).1 = 0 from rfl)]
    by_cases c2 : fX0_isNumber i (fX0_trimmed i x3) = 0
    · rw [if_pos c2, if_pos c2, if_neg (show ¬ ((2 : Nat), (0 : Int64)).1 = 0 by decide)]
      exact ⟨fun z => absurd z (by decide : ¬ 2 = 0), fun _ => ⟨Or.inl rfl, rfl⟩⟩
    · rw [if_neg c2, if_neg c2, if_pos (show ((0 : Nat), fX0_trimmed i x3).1 = 0 from rfl)]
      have n1 := num_of h c1
      have n2 := num_of h c2
      dsimp only
      generalize fX0_trimmed i x2 = lo at *
      generalize fX0_trimmed i x3 = hi at *
      rw [e_rank h n1, e_rank h n2]
      unfold fX0_isBelow
      by_cases c3 : fX0_rankOf i lo ≤ fX0_rankOf i hi
      · rw [if_pos c3, if_pos (show (0 : Int32) = 0 from rfl), if_neg (Int64.not_lt.mpr c3)]
        by_cases c4 : N = 8
        · have e8 : nI N = 8 := by rw [c4]; rfl
          rw [if_neg (show ¬ nI N < 8 by rw [e8]; decide), if_pos e8]
          exact ⟨fun z => absurd z (by decide : ¬ 3 = 0), fun _ => ⟨Or.inr rfl, rfl⟩⟩
        · have hN2 : N < 8 := by omega
          have e8 : ¬ nI N = 8 := fun z => c4 ((nI_eq (by omega) (by decide)).mp (z : nI N = nI 8))
          have l8 : nI N < 8 := nI_lt (b := 8) hN2 (by decide)
          rw [if_pos l8, if_neg e8]
          refine ⟨fun _ => ⟨hN2, ?_⟩, fun z => absurd rfl z⟩
          have nb : vp_nar .boolean (fI i) = fI i := by rcases i_cases h with rfl | rfl <;> decide +kernel
          rw [nI_clamp (show N < 2 ^ 31 by omega), nb]
          have hs : (nI N + 1) - 1 = nI N := by rw [nI_1, nI_pred]
          rw [hs, nI_1]
          have hfx : ∀ z : Int64, fX3_set (nI N) kc kr 0 kw (upd ff N (fI i)) (fX3_set (nI N) kc kr 0 kw (upd ff N (fI i)) (fX3_set (nI N) kc kr 0 kw (upd ff N (fI i)) cv (nI N) 0 lo) (nI N) 1 hi) (nI N) 3 z = vp_updL (vp_updL (vp_updL cv (7 * N + 0) lo) (7 * N + 1) hi) (7 * N + 3) z := by
            intro z
            unfold fX3_set
            rw [ix0 hN2, ix1 hN2, ix3 hN2]
          have core : ∀ z : Int64, z = kInf i → ∃ cv' : Nat → Int64, fX3_fresh (nI N) kc kr 0 kw (upd ff N (fI i)) (vp_updL (vp_updL (vp_updL cv (7 * N + 0) lo) (7 * N + 1) hi) (7 * N + 3) z) (nI N) = cv' ∧ CK i cv' N ∧ (∀ j, j < 7 * N ∨ 7 * N + 7 ≤ j → cv' j = cv j) ∧ lo = cv' (7 * N + 0) ∧ hi = cv' (7 * N + 1) ∧ kInf i = cv' (7 * N + 3) ∧ fX1_startAgain i lo hi 0 (kInf i) 0 0 0 = (cv' (7 * N + 2), cv' (7 * N + 4), cv' (7 * N + 5), cv' (7 * N + 6)) := by
            intro z hz
            subst hz
            obtain ⟨w, hw⟩ : ∃ w, w = vp_updL (vp_updL (vp_updL cv (7 * N + 0) lo) (7 * N + 1) hi) (7 * N + 3) (kInf i) := ⟨_, rfl⟩
            rw [← hw]
            have w0 : w (7 * N + 0) = lo := by rw [hw]; simp [vp_updL]
            have w1 : w (7 * N + 1) = hi := by rw [hw]; simp [vp_updL]
            have w3 : w (7 * N + 3) = kInf i := by rw [hw]; simp [vp_updL]
            have wl : ∀ j, j < 7 * N ∨ 7 * N + 7 ≤ j → w j = cv j := fun j hj => by
              rw [hw]; unfold vp_updL
              rw [if_neg (by omega), if_neg (by omega), if_neg (by omega)]
            obtain ⟨cv', f1, f2, f3, f4⟩ := fr_eq (i := i) (kn := nI N) (kc := kc) (kr := kr) (kt := 0) (kw := kw) (ff := upd ff N (fI i)) (cv := w) (k := N) h hN2 (by unfold upd; rw [if_pos rfl]) ⟨by rw [w0]; exact n1, by rw [w1]; exact n2, by rw [w3, kInf_n h]; exact ⟨_, Nat.le_refl _, rfl⟩, by rw [w0, w1]; exact c3⟩ 0 0 0 0
            rw [w0, w1, w3] at f2
            refine ⟨cv', f1, f3, fun j hj => ?_, ?_, ?_, ?_, f2⟩
            · rw [f4 j (by omega) (by omega) (by omega) (by omega)]; exact wl j hj
            · rw [f4 _ (by omega) (by omega) (by omega) (by omega)]; exact w0.symm
            · rw [f4 _ (by omega) (by omega) (by omega) (by omega)]; exact w1.symm
            · rw [f4 _ (by omega) (by omega) (by omega) (by omega)]; exact w3.symm
          rcases i_cases h with rfl | rfl
          · rw [if_neg (show ¬ fI 0 = 0 by decide), hfx]
            obtain ⟨cv', g1, g2⟩ := core 9218868437227405312 (by decide +kernel)
            rw [g1]
            exact ⟨cv', rfl, g2⟩
          · rw [if_pos (show fI 1 = 0 by decide), hfx]
            obtain ⟨cv', g1, g2⟩ := core 2139095040 (by decide +kernel)
            rw [g1]
            exact ⟨cv', rfl, g2⟩
      · rw [if_neg c3, if_neg (show ¬ (1 : Int32) = 0 by decide), if_pos (Int64.not_le.mp c3)]
        exact ⟨fun z => absurd z (by decide : ¬ 2 = 0), fun _ => ⟨Or.inl rfl, rfl⟩⟩
theorem cnt_eq {kd : Nat → Nat} {ff : Nat → Int32} {cv : Nat → Int64} (x1 : Int32) (h1 : x1 = 1 ∨ x1 = 2 ∨ x1 = 3) : ∀ N : Nat, (∀ k, k < N → kd k < 2 ∧ ff k = fI (kd k)) → cntN kd cv x1 N = cntM ff cv x1 N := by
  intro N
  induction N with
  | zero => intro _; rfl
  | succ n ih =>
    intro hh
    unfold cntN cntM
    rw [ih (fun k hk => hh k (by omega))]
    have : fX1_isCounted (kd n) (cv (7 * n + 0)) (cv (7 * n + 1)) (cv (7 * n + 2)) (cv (7 * n + 3)) (cv (7 * n + 4)) (cv (7 * n + 5)) (cv (7 * n + 6)) x1 = cntB ff cv x1 n := by
      obtain ⟨a, b⟩ := hh n (by omega)
      unfold fX1_isCounted cntB fX3_isNought
      rw [b, m_size a]
      rcases h1 with rfl | rfl | rfl
      · rw [if_pos rfl, if_pos rfl]; rfl
      · rfl
      · rfl
    rw [this]
theorem count_eq {made mvs : Int32} {kd : Nat → Nat} {ff : Nat → Int32} {cv : Nat → Int64} {N : Nat} (x1 : Int32) (hh : ∀ k, k < N → kd k < 2 ∧ ff k = fI (kd k)) :
    fX3_count made mvs (cntM ff cv x1 N) x1 = fX2_count made mvs (cntN kd cv x1 N) x1 := by
  unfold fX3_count fX2_count
  by_cases c0 : x1 = 0
  · rw [if_pos c0, if_pos c0]
  · rw [if_neg c0, if_neg c0]
    by_cases c4 : x1 = 4
    · subst c4; rfl
    · rw [if_neg c4, if_neg c4]
      by_cases c1 : x1 = 1
      · rw [← cnt_eq x1 (Or.inl c1) N hh]; subst c1; rfl
      · by_cases c2 : x1 = 2
        · rw [← cnt_eq x1 (Or.inr (Or.inl c2)) N hh]; subst c2; rfl
        · by_cases c3 : x1 = 3
          · rw [← cnt_eq x1 (Or.inr (Or.inr c3)) N hh]; subst c3; rfl
          · rw [if_neg c1, if_neg c2, if_neg c3]
            by_cases d : x1 < 1
            · rw [if_pos d]
            · rw [if_neg d]
              rw [if_neg]
              intro d3
              obtain ⟨j, hj, rfl⟩ := nI_of2 (x := x1) (M := 3) (n := 3) rfl (fun z => d (Int32.lt_trans z (by decide))) d3
              rcases (show j = 0 ∨ j = 1 ∨ j = 2 ∨ j = 3 by omega) with rfl | rfl | rfl | rfl
              · exact c0 rfl
              · exact c1 rfl
              · exact c2 rfl
              · exact c3 rfl
