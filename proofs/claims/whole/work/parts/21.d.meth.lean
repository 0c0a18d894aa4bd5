theorem way_cases {x : Int32} (h1 : ¬ x < 0) (h2 : x ≤ 2) : x = 0 ∨ x = 1 ∨ x = 2 := by
  obtain ⟨j, hj, rfl⟩ := nI_of2 (M := 2) (n := 2) rfl h1 h2
  rcases (show j = 0 ∨ j = 1 ∨ j = 2 by omega) with rfl | rfl | rfl
  · exact Or.inl rfl
  · exact Or.inr (Or.inl rfl)
  · exact Or.inr (Or.inr rfl)
/-- a move to a number: the pair that class and model give -/
theorem mvr_ok {i : Nat} (h : i < 2) {mvs kr kt : Int32} {kw : Int64} {ff : Nat → Int32} {cv : Nat → Int64} {k N : Nat} (hk : k < 8) (hf : ff k = fI i) (hc : CK i cv k) {x y : Int64} (hxy : x = y) (hn : NumV i x) :
    MvR i k cv mvs (0, (fX1_moveTo i (cv (7 * k + 0)) (cv (7 * k + 1)) (cv (7 * k + 2)) (cv (7 * k + 3)) (cv (7 * k + 4)) (cv (7 * k + 5)) (cv (7 * k + 6)) x).1, (fX1_moveTo i (cv (7 * k + 0)) (cv (7 * k + 1)) (cv (7 * k + 2)) (cv (7 * k + 3)) (cv (7 * k + 4)) (cv (7 * k + 5)) (cv (7 * k + 6)) x).1, (fX1_moveTo i (cv (7 * k + 0)) (cv (7 * k + 1)) (cv (7 * k + 2)) (cv (7 * k + 3)) (cv (7 * k + 4)) (cv (7 * k + 5)) (cv (7 * k + 6)) x).2.1, (fX1_moveTo i (cv (7 * k + 0)) (cv (7 * k + 1)) (cv (7 * k + 2)) (cv (7 * k + 3)) (cv (7 * k + 4)) (cv (7 * k + 5)) (cv (7 * k + 6)) x).2.2.1, (fX1_moveTo i (cv (7 * k + 0)) (cv (7 * k + 1)) (cv (7 * k + 2)) (cv (7 * k + 3)) (cv (7 * k + 4)) (cv (7 * k + 5)) (cv (7 * k + 6)) x).2.2.2, mvs + 1) ((fX3_becomes (nI N) mvs kr kt kw ff cv (nI k) y).1, (fX3_becomes (nI N) mvs kr kt kw ff cv (nI k) y).2.1, (fX3_becomes (nI N) mvs kr kt kw ff cv (nI k) y).2.2, 0) := by
  rw [← hxy]
  obtain ⟨cv', e1, e2, e3, e4⟩ := mv_eq (kn := nI N) (kc := mvs) (kr := kr) (kt := kt) (kw := kw) h hk hf hc hn
  rw [e1, e2]
  exact ⟨rfl, (by decide : 0 < 4), fun _ => ⟨rfl, rfl, rfl, e3, e4⟩, fun z => absurd rfl z⟩
theorem mvr_no {α : Type} {i k : Nat} {cv : Nat → Int64} {mvs : Int32} {a b : α} {c1 c2 c3 c4 : Int64} {c5 : Int32} : MvR i k cv mvs (2, a, c1, c2, c3, c4, c5) (b, cv, mvs, 2) := ⟨rfl, (by decide : 2 < 4), fun z => absurd z (by decide : ¬ 2 = 0), fun _ => ⟨rfl, rfl⟩⟩
theorem rest_eq {i : Nat} (h : i < 2) {made mvs tna kr kt : Int32} {twi kw : Int64} {fa : Nat → Option Nat} {ff : Nat → Int32} {cv : Nat → Int64} {k N : Nat} (hk : k < N) (hN : N ≤ 8) (hf : ff k = fI i) (hc : CK i cv k) (x2 : Int32) :
    MvR i k cv mvs (fX2_rest made mvs twi tna fa i (cv (7 * k + 0)) (cv (7 * k + 1)) (cv (7 * k + 2)) (cv (7 * k + 3)) (cv (7 * k + 4)) (cv (7 * k + 5)) (cv (7 * k + 6)) (nI k) x2) (fX3_rest (nI N) mvs kr kt kw ff cv (nI k) x2) := by
  unfold fX2_rest fX3_rest
  rw [th_in hk hN, nI_clamp (show k < 2 ^ 31 by omega), hf]
  unfold fX3_get
  rw [ix2 (show k < 8 by omega), if_neg (show ¬ ((1 : Int32), (0 : Int32)).1 = 0 by decide)]
  by_cases c : x2 < 0
  · rw [if_pos c, if_pos c]; exact mvr_no
  · rw [if_neg c, if_neg c]
    by_cases d : x2 ≤ 2
    · rw [if_pos d, if_pos d]
      dsimp only
      have hw := way_cases c d
      obtain ⟨s, m, hm, hv⟩ := hc.2.2.1
      have hm2 := le_B h hm
      rw [m_size h]
      rw [hv, n_size h hm2, ← hv]
      have nn := kN_nn h (s := s) hm2
      rw [← hv] at nn
      rcases i_cases h with rfl | rfl
      · rw [if_neg (by decide : ¬ fI 0 = 0)]
        obtain ⟨r, r1, r2, r3⟩ := rest_fine (s := s) hm hw
        rw [← hv] at r2
        cases s
        · rw [if_pos (nn.mpr rfl)]
          exact mvr_ok h (by omega) hf hc (r2.trans r3.symm) ⟨false, r, r1, r2⟩
        · rw [if_neg (fun z => by have := nn.mp z; simp at this)]
          exact mvr_ok h (by omega) hf hc (r2.trans r3.symm) ⟨true, r, r1, r2⟩
      · rw [if_pos (by decide : fI 1 = 0)]
        obtain ⟨r, r1, r2, r3⟩ := rest_coarse (s := s) hm hw
        rw [← hv] at r2
        cases s
        · rw [if_pos (nn.mpr rfl)]
          exact mvr_ok h (by omega) hf hc (r2.trans r3.symm) ⟨false, r, r1, r2⟩
        · rw [if_neg (fun z => by have := nn.mp z; simp at this)]
          exact mvr_ok h (by omega) hf hc (r2.trans r3.symm) ⟨true, r, r1, r2⟩
    · rw [if_neg d, if_neg d]; exact mvr_no
theorem face_num {i j : Nat} (h : i < 2) (hj : j < 2) {v o : Int64} (hv : NumV i v) (ho : NumV j o) : NumV i (fX0_withSideOf i v o) ∧ fX0_withSideOf i v o = (if (0 : Int64) ≤ o then fX3_sided (fI i) (fX3_sizeOf (fI i) v) 0 else fX3_sided (fI i) (fX3_sizeOf (fI i) v) 1) := by
  obtain ⟨s, m, hm, rfl⟩ := hv
  obtain ⟨t, n, hn, rfl⟩ := ho
  have hm2 := le_B h hm
  have hn2 := le_B hj hn
  rw [n_sideJ h hj hm2 hn2, m_size h, n_size h hm2]
  refine ⟨⟨t, m, hm, rfl⟩, ?_⟩
  have nn := kN_nn hj (s := t) hn2
  cases t
  · rw [if_pos (nn.mpr rfl)]; exact (m_sided h false hm2).symm
  · rw [if_neg (fun z => by have := nn.mp z; simp at this)]; exact (m_sided h true hm2).symm
theorem face_m {i j : Nat} (h : i < 2) (hj : j < 2) {mvs kr kt : Int32} {kw : Int64} {ff : Nat → Int32} {cv : Nat → Int64} {k l N : Nat} (hk : k < N) (hl : l < N) (hN : N ≤ 8) (hf : ff k = fI i) (hc : CK i cv k) (ho : NumV j (cv (7 * l + 2))) :
    fX3_face (nI N) mvs kr kt kw ff cv (nI k) (nI l) = ((fX3_becomes (nI N) mvs kr 0 kw ff cv (nI k) (fX0_withSideOf i (cv (7 * k + 2)) (cv (7 * l + 2)))).1, (fX3_becomes (nI N) mvs kr 0 kw ff cv (nI k) (fX0_withSideOf i (cv (7 * k + 2)) (cv (7 * l + 2)))).2.1, (fX3_becomes (nI N) mvs kr 0 kw ff cv (nI k) (fX0_withSideOf i (cv (7 * k + 2)) (cv (7 * l + 2)))).2.2, 0) := by
  unfold fX3_face
  rw [th_in hk hN, th_in hl hN, nI_clamp (show k < 2 ^ 31 by omega), hf]
  unfold fX3_get
  rw [ix2 (show k < 8 by omega), ix2 (show l < 8 by omega), if_neg (show ¬ ((1 : Int32), (0 : Int32)).1 = 0 by decide), if_neg (show ¬ ((1 : Int32), (0 : Int32)).1 = 0 by decide)]
  obtain ⟨f1, f2⟩ := face_num h hj hc.2.2.1 ho
  rw [f2]
  by_cases c : (0 : Int64) ≤ cv (7 * l + 2)
  · rw [if_pos c, if_pos c]
  · rw [if_neg c, if_neg c]
theorem face_eq {i j : Nat} (h : i < 2) (hj : j < 2) {made mvs tna kr kt : Int32} {twi kw : Int64} {fa : Nat → Option Nat} {ff : Nat → Int32} {cv : Nat → Int64} {k l N : Nat} (hk : k < N) (hl : l < N) (hN : N ≤ 8) (hf : ff k = fI i) (hc : CK i cv k) (hc2 : CK j cv l) :
    MvR i k cv mvs (fX2_face made mvs twi tna fa i (cv (7 * k + 0)) (cv (7 * k + 1)) (cv (7 * k + 2)) (cv (7 * k + 3)) (cv (7 * k + 4)) (cv (7 * k + 5)) (cv (7 * k + 6)) j (cv (7 * l + 0)) (cv (7 * l + 1)) (cv (7 * l + 2)) (cv (7 * l + 3)) (cv (7 * l + 4)) (cv (7 * l + 5)) (cv (7 * l + 6)) (nI k) (nI l)) (fX3_face (nI N) mvs kr kt kw ff cv (nI k) (nI l)) := by
  rw [face_m h hj hk hl hN hf hc hc2.2.2.1]
  exact mvr_ok h (by omega) hf hc rfl (face_num h hj hc.2.2.1 hc2.2.2.1).1
theorem face_s_eq {i : Nat} (h : i < 2) {made mvs tna kr kt : Int32} {twi kw : Int64} {fa : Nat → Option Nat} {ff : Nat → Int32} {cv : Nat → Int64} {k N : Nat} (hk : k < N) (hN : N ≤ 8) (hf : ff k = fI i) (hc : CK i cv k) :
    MvR i k cv mvs (fX2_face_s made mvs twi tna fa i (cv (7 * k + 0)) (cv (7 * k + 1)) (cv (7 * k + 2)) (cv (7 * k + 3)) (cv (7 * k + 4)) (cv (7 * k + 5)) (cv (7 * k + 6)) (nI k) (nI k)) (fX3_face (nI N) mvs kr kt kw ff cv (nI k) (nI k)) := by
  rw [face_m h h hk hk hN hf hc hc.2.2.1]
  exact mvr_ok h (by omega) hf hc rfl (face_num h h hc.2.2.1 hc.2.2.1).1
/-- a pull's sums -/
theorem pull_sum {i : Nat} (h : i < 2) {v t e : Int64} (hv : NumV i v) (ht : NumV i t) (he : SzV i e) (ha : fX0_areAlike i v t = 0) :
    ∃ s' m', m' ≤ nInf i ∧ fX0_sum i t (fX0_negated i v) = lN (kN i s' m') ∧ fX3_sum (fI i) t (fX3_turned (fI i) v) = lN (kN i s' m') ∧ SumOK (fI i) t (fX3_turned (fI i) v) ∧
      (e < lN m' → ∃ s'' m'', m'' ≤ nInf i ∧ fX0_sum i v (fX0_withSideOf i e (lN (kN i s' m'))) = lN (kN i s'' m'') ∧ fX3_sum (fI i) v (fX3_sided (fI i) e (if s' then 1 else 0)) = lN (kN i s'' m'') ∧ ∀ z : Int32, SumOK (fI i) v (fX3_sided (fI i) e z)) := by
  obtain ⟨s, m, hm, rfl⟩ := hv
  obtain ⟨t, n, hn, rfl⟩ := ht
  obtain ⟨d, hd, rfl⟩ := he
  have hm2 := le_B h hm
  have hn2 := le_B h hn
  have hd2 := le_B h hd
  rw [n_negated h hm2, e_turned h hm2]
  obtain ⟨s', m', hm', e1, e2, e3⟩ := sum_eq h (s := t) (t := !s) hn hm (fun z => by
    have hts : t = s := by
      have := bool_ne z.2.2
      cases s <;> cases t <;> simp_all
    unfold fX0_areAlike at ha
    rw [if_pos (by rw [hts, z.1, z.2.1])] at ha
    exact absurd ha (by decide))
  refine ⟨s', m', hm', e1, e2, e3, fun hlt => ?_⟩
  have hm3 := le_B h hm'
  have hB := (nB_facts h).2.1
  have hdm : d < m' := (jN_lt (by omega) (by omega)).mp hlt
  have key : ∀ b : Bool, ∃ s'' m'', m'' ≤ nInf i ∧ fX0_sum i (lN (kN i s m)) (lN (kN i b d)) = lN (kN i s'' m'') ∧ fX3_sum (fI i) (lN (kN i s m)) (lN (kN i b d)) = lN (kN i s'' m'') ∧ SumOK (fI i) (lN (kN i s m)) (lN (kN i b d)) := fun b => sum_eq h hm hd (fun z => by omega)
  have sidez : ∀ z : Int32, ∃ b : Bool, fX3_sided (fI i) (lN d) z = lN (kN i b d) := by
    intro z
    by_cases c : z = 0
    · refine ⟨false, ?_⟩
      rw [c]; exact m_sided h false hd2
    · refine ⟨true, ?_⟩
      have := m_sided h true hd2
      rw [← this]
      unfold fX3_sided
      rw [if_neg c, if_neg (show ¬ (if true = true then (1 : Int32) else 0) = 0 by decide)]
  rw [n_side h h hd2 hm3, m_sided h s' hd2]
  obtain ⟨s'', m'', g1, g2, g3, -⟩ := key s'
  refine ⟨s'', m'', g1, g2, g3, fun z => ?_⟩
  obtain ⟨b, hb⟩ := sidez z
  rw [hb]
  exact (key b).elim (fun _ q => q.elim (fun _ q => q.2.2.2))
theorem pull_eq {i : Nat} (h : i < 2) {made mvs tna kr kt : Int32} {twi kw : Int64} {fa : Nat → Option Nat} {ff : Nat → Int32} {cv : Nat → Int64} {k N : Nat} (hk : k < N) (hN : N ≤ 8) (hf : ff k = fI i) (hc : CK i cv k) (x2 : Int64) :
    MvR i k cv mvs (fX2_pull made mvs twi tna fa i (cv (7 * k + 0)) (cv (7 * k + 1)) (cv (7 * k + 2)) (cv (7 * k + 3)) (cv (7 * k + 4)) (cv (7 * k + 5)) (cv (7 * k + 6)) (nI k) x2) (fX3_pull (nI N) mvs kr kt kw ff cv (nI k) x2) := by
  have hk8 : k < 8 := by omega
  unfold fX2_pull fX3_pull
  rw [mayy_in h hk hN hf, nf_eq, nI_clamp (show k < 2 ^ 31 by omega), hf, e_own h]
  unfold fX3_get
  rw [ix2 hk8, ix3 hk8]
  by_cases c : fX0_isNumber i (fX0_trimmed i x2) = 0
  · rw [if_pos c, if_pos c, if_neg (by decide), if_pos rfl]
    exact mvr_no
  · rw [if_neg c, if_neg c, if_pos (show ((0 : Nat), fX0_trimmed i x2).1 = 0 from rfl), if_neg (show ¬ ((1 : Int32), (0 : Int32)).1 = 0 by decide)]
    dsimp only
    have ht := num_of h c
    generalize fX0_trimmed i x2 = t at *
    have pok : ∀ {x y : Int64}, x = y → NumV i x → MvR i k cv mvs (0, fX0_areAlike i (fX1_moveTo i (cv (7 * k + 0)) (cv (7 * k + 1)) (cv (7 * k + 2)) (cv (7 * k + 3)) (cv (7 * k + 4)) (cv (7 * k + 5)) (cv (7 * k + 6)) x).1 t, (fX1_moveTo i (cv (7 * k + 0)) (cv (7 * k + 1)) (cv (7 * k + 2)) (cv (7 * k + 3)) (cv (7 * k + 4)) (cv (7 * k + 5)) (cv (7 * k + 6)) x).1, (fX1_moveTo i (cv (7 * k + 0)) (cv (7 * k + 1)) (cv (7 * k + 2)) (cv (7 * k + 3)) (cv (7 * k + 4)) (cv (7 * k + 5)) (cv (7 * k + 6)) x).2.1, (fX1_moveTo i (cv (7 * k + 0)) (cv (7 * k + 1)) (cv (7 * k + 2)) (cv (7 * k + 3)) (cv (7 * k + 4)) (cv (7 * k + 5)) (cv (7 * k + 6)) x).2.2.1, (fX1_moveTo i (cv (7 * k + 0)) (cv (7 * k + 1)) (cv (7 * k + 2)) (cv (7 * k + 3)) (cv (7 * k + 4)) (cv (7 * k + 5)) (cv (7 * k + 6)) x).2.2.2, mvs + 1) (fX3_alike (fI i) (fX3_becomes (nI N) mvs kr 0 kw ff cv (nI k) y).1 t, (fX3_becomes (nI N) mvs kr 0 kw ff cv (nI k) y).2.1, (fX3_becomes (nI N) mvs kr 0 kw ff cv (nI k) y).2.2, 0) := by
      intro x y hxy hn
      rw [← hxy]
      obtain ⟨cv', e1, e2, e3, e4⟩ := mv_eq (kn := nI N) (kc := mvs) (kr := kr) (kt := 0) (kw := kw) h hk8 hf hc hn
      rw [e1, e2]
      exact ⟨rfl, (by decide : 0 < 4), fun _ => ⟨rfl, rfl, (e_alike h _ _).symm, e3, e4⟩, fun z => absurd rfl z⟩
    unfold fX1_stepTowards
    have ea := e_alike h (cv (7 * k + 2)) t
    by_cases d : fX0_areAlike i (cv (7 * k + 2)) t = 0
    · rw [if_pos d, if_pos (ea.trans d)]
      obtain ⟨s', m', hm', e1, e2, e3, e4⟩ := pull_sum h hc.2.2.1 ht hc.2.2.2.1 d
      rw [e1, e2, m_size h, n_size h (le_B h hm')]
      have nn := kN_nn h (s := s') (le_B h hm')
      by_cases f : cv (7 * k + 3) < lN m'
      · rw [if_pos f, if_neg (Int64.not_le.mpr f)]
        obtain ⟨s'', m'', g1, g2, g3, -⟩ := e4 f
        cases s'
        · rw [if_pos (nn.mpr rfl)]
          exact pok (g2.trans g3.symm) ⟨s'', m'', g1, g2⟩
        · rw [if_neg (fun z => by have := nn.mp z; simp at this)]
          exact pok (g2.trans g3.symm) ⟨s'', m'', g1, g2⟩
      · rw [if_neg f, if_pos (Int64.not_lt.mp f)]
        exact pok rfl ht
    · rw [if_neg d, if_neg (fun z => d (ea.symm.trans z))]
      exact pok rfl ht
