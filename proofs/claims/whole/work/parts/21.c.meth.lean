/-! the methods: class and model -/
section ME
variable {kn kc kr kt mvs : Int32} {kw : Int64} {ff : Nat → Int32} {cv : Nat → Int64} {k N i : Nat}
theorem th_in (hk : k < N) (hN : N ≤ 8) : fX3_isThere (nI N) kc kr kt kw ff cv (nI k) = (1, 0) := by
  unfold fX3_isThere
  rw [if_neg (nI_pos (by omega)), if_neg (nI_ge hk (by omega))]
theorem th_out {x : Int32} (hN : N ≤ 8) (h : ∀ k, k < N → ¬ x = nI k) : fX3_isThere (nI N) kc kr kt kw ff cv x = (0, 1) := by
  unfold fX3_isThere
  by_cases c : x < 0
  · rw [if_pos c]
  · rw [if_neg c]
    obtain ⟨j, hj, rfl⟩ := nI_of c
    rw [if_pos]
    exact (nI_leI (by omega) hj).mpr (Nat.le_of_not_lt (fun z => h j z rfl))
theorem mayy_in (h : i < 2) (hk : k < N) (hN : N ≤ 8) (hf : ff k = fI i) (x2 : Int64) : fX3_may (nI N) kc kr kt kw ff cv (nI k) x2 = if fX0_isNumber i (fX0_trimmed i x2) = 0 then (0, 2) else (1, 0) := by
  unfold fX3_may
  rw [th_in hk hN, nI_clamp (show k < 2 ^ 31 by omega), hf, e_isn h, e_isn_raw h]
  by_cases c : fX0_isNumber i x2 = 0 <;> simp [c]
theorem mayy_out {x : Int32} (hN : N ≤ 8) (h : ∀ k, k < N → ¬ x = nI k) (x2 : Int64) : fX3_may (nI N) kc kr kt kw ff cv x x2 = (0, 1) := by
  unfold fX3_may
  rw [th_out hN h]
  simp
theorem nf_eq (i : Nat) (x : Int64) : fX2_numberFrom i x = if fX0_isNumber i (fX0_trimmed i x) = 0 then (2, 0) else (0, fX0_trimmed i x) := rfl
end ME
/-- a method that moves needle k: what class and model came to -/
def MvR {α : Type} (i k : Nat) (cv : Nat → Int64) (mvs : Int32) (c : Nat × α × Int64 × Int64 × Int64 × Int64 × Int32) (m : α × (Nat → Int64) × Int32 × Int32) : Prop :=
  m.2.2.2 = nI c.1 ∧ c.1 < 4 ∧ (c.1 = 0 → c.2.2 = (m.2.1 (7 * k + 2), m.2.1 (7 * k + 4), m.2.1 (7 * k + 5), m.2.1 (7 * k + 6), mvs + 1) ∧ m.2.2.1 = mvs + 1 ∧ c.2.1 = m.1 ∧ CK i m.2.1 k ∧ ∀ j, ¬ j = 7 * k + 2 → ¬ j = 7 * k + 4 → ¬ j = 7 * k + 5 → ¬ j = 7 * k + 6 → m.2.1 j = cv j) ∧ (¬ c.1 = 0 → m.2.1 = cv ∧ m.2.2.1 = mvs)
theorem put_eq {i : Nat} (h : i < 2) {made mvs tna kr kt : Int32} {twi kw : Int64} {fa : Nat → Option Nat} {ff : Nat → Int32} {cv : Nat → Int64} {k N : Nat} (hk : k < N) (hN : N ≤ 8) (hf : ff k = fI i) (hc : CK i cv k) (x2 : Int64) :
    MvR i k cv mvs (fX2_put made mvs twi tna fa i (cv (7 * k + 0)) (cv (7 * k + 1)) (cv (7 * k + 2)) (cv (7 * k + 3)) (cv (7 * k + 4)) (cv (7 * k + 5)) (cv (7 * k + 6)) (nI k) x2) (fX3_put (nI N) mvs kr kt kw ff cv (nI k) x2) := by
  unfold fX2_put fX3_put
  rw [mayy_in h hk hN hf, nf_eq, nI_clamp (show k < 2 ^ 31 by omega), hf, e_own h]
  by_cases c : fX0_isNumber i (fX0_trimmed i x2) = 0
  · rw [if_pos c, if_pos c, if_neg (by decide), if_pos rfl]
    exact ⟨rfl, (by decide : 2 < 4), fun z => absurd z (by decide : ¬ 2 = 0), fun _ => ⟨rfl, rfl⟩⟩
  · rw [if_neg c, if_neg c, if_pos rfl, if_neg (by decide)]
    obtain ⟨cv', e1, e2, e3, e4⟩ := mv_eq (kn := nI N) (kc := mvs) (kr := kr) (kt := 0) (kw := kw) h (show k < 8 by omega) hf hc (num_of h c)
    dsimp only
    rw [e1, e2]
    exact ⟨rfl, (by decide : 0 < 4), fun _ => ⟨rfl, rfl, rfl, e3, e4⟩, fun z => absurd rfl z⟩
theorem opp_eq {i : Nat} (h : i < 2) {v x : Int64} (hv : NumV i v) (hx : NumV i x) : fX0_areOppositeInfinities i v x = (if fX3_isEndless (fI i) x = 0 then 0 else if fX3_isEndless (fI i) v = 0 then 0 else if x = v then 0 else 1) ∧ (fX0_areOppositeInfinities i v x = 0 → ∃ s' m', m' ≤ nInf i ∧ fX0_sum i v x = lN (kN i s' m') ∧ fX3_sum (fI i) v x = lN (kN i s' m') ∧ SumOK (fI i) v x) := by
  obtain ⟨s, m, hm, rfl⟩ := hv
  obtain ⟨t, n, hn, rfl⟩ := hx
  have hm2 := le_B h hm
  have hn2 := le_B h hn
  have hI := (nB_facts h).1
  have hle : ∀ (s : Bool) (m : Nat), m < 2 ^ nB i → fX3_isEndless (fI i) (lN (kN i s m)) = if m = nInf i then 1 else 0 := by
    intro s m hm
    unfold fX3_isEndless
    rw [m_size h, n_size h hm]
    have p : lN m = lN (nInf i) ↔ m = nInf i := jN_inj (by have := (nB_facts h).2.1; omega) (by have := (nB_facts h).2.1; omega)
    rcases i_cases h with rfl | rfl
    · rw [if_neg (by decide), show (9218868437227405312 : Int64) = lN (nInf 0) from rfl]
      by_cases c : m = nInf 0
      · rw [if_pos c, if_pos (p.mpr c)]
      · rw [if_neg c, if_neg (fun z => c (p.mp z))]
    · rw [if_pos (by decide), show (2139095040 : Int64) = lN (nInf 1) from rfl]
      by_cases c : m = nInf 1
      · rw [if_pos c, if_pos (p.mpr c)]
      · rw [if_neg c, if_neg (fun z => c (p.mp z))]
  have hop : fX0_areOppositeInfinities i (lN (kN i s m)) (lN (kN i t n)) = if m = nInf i ∧ n = nInf i ∧ ¬ s = t then 1 else 0 := by
    unfold fX0_areOppositeInfinities
    rw [n_size h hm2, kInf_n h, n_negated h hm2]
    have p : lN m = lN (nInf i) ↔ m = nInf i := jN_inj (by have := (nB_facts h).2.1; omega) (by have := (nB_facts h).2.1; omega)
    have q : lN (kN i t n) = lN (kN i (!s) m) ↔ t = (!s) ∧ n = m := kN_inj h hn2 hm2
    by_cases c : m = nInf i
    · rw [if_pos (p.mpr c)]
      by_cases d : t = (!s) ∧ n = m
      · rw [if_pos (q.mpr d), if_pos ⟨c, by omega, by rw [d.1]; cases s <;> simp⟩]
      · rw [if_neg (fun z => d (q.mp z)), if_neg]
        rintro ⟨-, z1, z2⟩
        exact d ⟨bool_ne z2, by omega⟩
    · rw [if_neg (fun z => c (p.mp z)), if_neg (fun z => c z.1)]
  constructor
  · rw [hop, hle s m hm2, hle t n hn2]
    have q : lN (kN i t n) = lN (kN i s m) ↔ t = s ∧ n = m := kN_inj h hn2 hm2
    have t1 : ¬ (1 : Int32) = 0 := by decide
    have t0 : (0 : Int32) = 0 := rfl
    by_cases c1 : n = nInf i
    · by_cases c2 : m = nInf i
      · rw [if_pos c1, if_pos c2, if_neg t1, if_neg t1]
        by_cases c3 : s = t
        · rw [if_pos (q.mpr ⟨c3.symm, by omega⟩), if_neg (fun z => z.2.2 c3)]
        · rw [if_neg (fun z => c3 (q.mp z).1.symm), if_pos ⟨c2, c1, c3⟩]
      · rw [if_pos c1, if_neg c2, if_neg t1, if_pos t0, if_neg (fun z => c2 z.1)]
    · rw [if_neg c1, if_pos t0, if_neg (fun z => c1 z.2.1)]
  · intro z
    rw [hop] at z
    exact sum_eq h hm hn (fun w => by rw [if_pos w] at z; exact absurd z (by decide))
theorem turn_eq {i : Nat} (h : i < 2) {made mvs tna kr kt : Int32} {twi kw : Int64} {fa : Nat → Option Nat} {ff : Nat → Int32} {cv : Nat → Int64} {k N : Nat} (hk : k < N) (hN : N ≤ 8) (hf : ff k = fI i) (hc : CK i cv k) (x2 : Int64) :
    MvR i k cv mvs (fX2_turn made mvs twi tna fa i (cv (7 * k + 0)) (cv (7 * k + 1)) (cv (7 * k + 2)) (cv (7 * k + 3)) (cv (7 * k + 4)) (cv (7 * k + 5)) (cv (7 * k + 6)) (nI k) x2) (fX3_turn (nI N) mvs kr kt kw ff cv (nI k) x2) := by
  unfold fX2_turn fX3_turn
  rw [mayy_in h hk hN hf, nf_eq, nI_clamp (show k < 2 ^ 31 by omega), hf, e_own h]
  unfold fX3_get
  rw [ix2 (show k < 8 by omega)]
  by_cases c : fX0_isNumber i (fX0_trimmed i x2) = 0
  · rw [if_pos c, if_pos c, if_neg (by decide), if_pos rfl]
    exact ⟨rfl, (by decide : 2 < 4), fun z => absurd z (by decide : ¬ 2 = 0), fun _ => ⟨rfl, rfl⟩⟩
  · rw [if_neg c, if_neg c, if_pos (show ((0 : Nat), fX0_trimmed i x2).1 = 0 from rfl), if_neg (show ¬ ((1 : Int32), (0 : Int32)).1 = 0 by decide)]
    dsimp only
    obtain ⟨o1, o2⟩ := opp_eq h hc.2.2.1 (num_of h c)
    have good : fX0_areOppositeInfinities i (cv (7 * k + 2)) (fX0_trimmed i x2) = 0 → MvR i k cv mvs (0, (fX1_moveTo i (cv (7 * k + 0)) (cv (7 * k + 1)) (cv (7 * k + 2)) (cv (7 * k + 3)) (cv (7 * k + 4)) (cv (7 * k + 5)) (cv (7 * k + 6)) (fX0_sum i (cv (7 * k + 2)) (fX0_trimmed i x2))).1, (fX1_moveTo i (cv (7 * k + 0)) (cv (7 * k + 1)) (cv (7 * k + 2)) (cv (7 * k + 3)) (cv (7 * k + 4)) (cv (7 * k + 5)) (cv (7 * k + 6)) (fX0_sum i (cv (7 * k + 2)) (fX0_trimmed i x2))).1, (fX1_moveTo i (cv (7 * k + 0)) (cv (7 * k + 1)) (cv (7 * k + 2)) (cv (7 * k + 3)) (cv (7 * k + 4)) (cv (7 * k + 5)) (cv (7 * k + 6)) (fX0_sum i (cv (7 * k + 2)) (fX0_trimmed i x2))).2.1, (fX1_moveTo i (cv (7 * k + 0)) (cv (7 * k + 1)) (cv (7 * k + 2)) (cv (7 * k + 3)) (cv (7 * k + 4)) (cv (7 * k + 5)) (cv (7 * k + 6)) (fX0_sum i (cv (7 * k + 2)) (fX0_trimmed i x2))).2.2.1, (fX1_moveTo i (cv (7 * k + 0)) (cv (7 * k + 1)) (cv (7 * k + 2)) (cv (7 * k + 3)) (cv (7 * k + 4)) (cv (7 * k + 5)) (cv (7 * k + 6)) (fX0_sum i (cv (7 * k + 2)) (fX0_trimmed i x2))).2.2.2, mvs + 1) ((fX3_becomes (nI N) mvs kr 0 kw ff cv (nI k) (fX3_sum (fI i) (cv (7 * k + 2)) (fX0_trimmed i x2))).1, (fX3_becomes (nI N) mvs kr 0 kw ff cv (nI k) (fX3_sum (fI i) (cv (7 * k + 2)) (fX0_trimmed i x2))).2.1, (fX3_becomes (nI N) mvs kr 0 kw ff cv (nI k) (fX3_sum (fI i) (cv (7 * k + 2)) (fX0_trimmed i x2))).2.2, 0) := by
      intro z
      obtain ⟨s', m', hm', s1, s2, -⟩ := o2 z
      have hn : NumV i (fX0_sum i (cv (7 * k + 2)) (fX0_trimmed i x2)) := ⟨s', m', hm', s1⟩
      rw [s2, ← s1]
      obtain ⟨cv', e1, e2, e3, e4⟩ := mv_eq (kn := nI N) (kc := mvs) (kr := kr) (kt := 0) (kw := kw) h (show k < 8 by omega) hf hc hn
      rw [e1, e2]
      exact ⟨rfl, (by decide : 0 < 4), fun _ => ⟨rfl, rfl, rfl, e3, e4⟩, fun z => absurd rfl z⟩
    by_cases d1 : fX3_isEndless (fI i) (fX0_trimmed i x2) = 0
    · rw [if_pos d1] at o1 ⊢
      rw [if_pos o1]; exact good o1
    · rw [if_neg d1] at o1 ⊢
      by_cases d2 : fX3_isEndless (fI i) (cv (7 * k + 2)) = 0
      · rw [if_pos d2] at o1 ⊢
        rw [if_pos o1]; exact good o1
      · rw [if_neg d2] at o1 ⊢
        by_cases d3 : fX0_trimmed i x2 = cv (7 * k + 2)
        · rw [if_pos d3] at o1 ⊢
          rw [if_pos o1]; exact good o1
        · rw [if_neg d3] at o1 ⊢
          rw [o1, if_neg (show ¬ (1 : Int32) = 0 by decide)]
          exact ⟨rfl, (by decide : 3 < 4), fun z => absurd z (by decide : ¬ 3 = 0), fun _ => ⟨rfl, rfl⟩⟩
