/-! one contract for each helper of the law, in the model's words -/
section UL
variable {cyJ cyN cyZ : ClassId} {D : va_G} {tys : List (ClassId × FieldType)} {ad : Nat → Nat} {L : List Nat} {g : Nat → va_E} {ob arr out om fz cj : Nat} {N : Nat} {kd na : Nat → Nat} {fa : Nat → Option Nat} {ff : Nat → Int32} {cv : Nat → Int64} {mvs tna kt : Int32} {twi : Int64} {fo : Nat → Int64}
theorem put_out {x : Int32} (hN : N ≤ 8) (h : ∀ k, k < N → ¬ x = nI k) (x2 : Int64) : fX3_put (nI N) mvs tna kt twi ff cv x x2 = (0, cv, mvs, 1) := by
  unfold fX3_put
  rw [mayy_out hN h]
  rfl
theorem turn_out {x : Int32} (hN : N ≤ 8) (h : ∀ k, k < N → ¬ x = nI k) (x2 : Int64) : fX3_turn (nI N) mvs tna kt twi ff cv x x2 = (0, cv, mvs, 1) := by
  unfold fX3_turn
  rw [mayy_out hN h]
  rfl
theorem pull_out {x : Int32} (hN : N ≤ 8) (h : ∀ k, k < N → ¬ x = nI k) (x2 : Int64) : fX3_pull (nI N) mvs tna kt twi ff cv x x2 = (0, cv, mvs, 1) := by
  unfold fX3_pull
  rw [mayy_out hN h]
  rfl
theorem damp_out {x : Int32} (hN : N ≤ 8) (h : ∀ k, k < N → ¬ x = nI k) (x2 : Int64) : fX3_damp (nI N) mvs tna kt twi ff cv x x2 = (0, cv, 1) := by
  unfold fX3_damp
  rw [mayy_out hN h]
  rfl
theorem rest_out {x : Int32} (hN : N ≤ 8) (h : ∀ k, k < N → ¬ x = nI k) (x2 : Int32) : fX3_rest (nI N) mvs tna kt twi ff cv x x2 = (0, cv, mvs, 1) := by
  unfold fX3_rest
  rw [th_out hN h]
  rfl
theorem face_out {x : Int32} (hN : N ≤ 8) (h : ∀ k, k < N → ¬ x = nI k) (x2 : Int32) : fX3_face (nI N) mvs tna kt twi ff cv x x2 = (0, cv, mvs, 1) := by
  unfold fX3_face
  rw [th_out hN h]
  rfl
theorem face_out2 {k : Nat} {x : Int32} (hk : k < N) (hN : N ≤ 8) (h : ∀ k, k < N → ¬ x = nI k) : fX3_face (nI N) mvs tna kt twi ff cv (nI k) x = (0, cv, mvs, 1) := by
  unfold fX3_face
  rw [th_in hk hN, th_out hN h]
  rfl
theorem read_out {x : Int32} (hN : N ≤ 8) (h : ∀ k, k < N → ¬ x = nI k) (x2 : Int32) : fX3_read (nI N) mvs tna kt twi ff cv x x2 = (0, 1) := by
  unfold fX3_read
  rw [th_out hN h]
  rfl
theorem btw_out {x : Int32} (hN : N ≤ 8) (h : ∀ k, k < N → ¬ x = nI k) (x2 x3 : Int32) : fX3_between (nI N) mvs tna kt twi ff cv x x2 x3 = (0, 1) := by
  unfold fX3_between
  rw [th_out hN h]
  rfl
theorem btw_out2 {k : Nat} {x : Int32} (hk : k < N) (hN : N ≤ 8) (h : ∀ k, k < N → ¬ x = nI k) (x3 : Int32) : fX3_between (nI N) mvs tna kt twi ff cv (nI k) x x3 = (0, 1) := by
  unfold fX3_between
  rw [th_in hk hN, th_out hN h]
  rfl
theorem ord_out {x : Int32} (hN : N ≤ 8) (h : ∀ k, k < N → ¬ x = nI k) (x2 : Int32) : fX3_order (nI N) mvs tna kt twi ff cv x x2 = (0, 1) := by
  unfold fX3_order
  rw [th_out hN h]
  rfl
theorem ord_out2 {k : Nat} {x : Int32} (hk : k < N) (hN : N ≤ 8) (h : ∀ k, k < N → ¬ x = nI k) : fX3_order (nI N) mvs tna kt twi ff cv (nI k) x = (0, 1) := by
  unfold fX3_order
  rw [th_in hk hN, th_out hN h]
  rfl
theorem back_out {x : Int32} (hN : N ≤ 8) (h : ∀ k, k < N → ¬ x = nI k) : fX3_back (nI N) mvs tna kt twi ff cv x = (cv, 1) := by
  unfold fX3_back
  rw [th_out hN h]
  rfl
theorem n1_ne : ¬ (1 : Int32) = 0 := by decide
set_option maxRecDepth 100000 in
theorem u_put (l : Launch) (hfl : l.stackTraces = false) (I : ST ob arr out om fz cj L N kd na fa ff cv) (hB : BS ad cyN ob arr N kd na fa mvs twi tna cv g) (hO : g out = .inl (cyJ, 1, .inr (.inl fo))) (htN : tys[2]? = some (cyN, .object RX1)) (htJ : tys[0]? = some (cyJ, .long)) (kt : Int32) (x1 : Int32) (x2 : Int64) : UM l yL_put wsL_put D tys ad L g [.ref ob, .int x1, .long x2, .ref out] (some (.int (fX3_put (nI N) mvs tna kt twi ff cv x1 x2).2.2.2)) (HP ad cyJ cyN ob arr out om fz cj N kd na fa twi tna g (fX3_put (nI N) mvs tna kt twi ff cv x1 x2).2.2.1 (fX3_put (nI N) mvs tna kt twi ff cv x1 x2).2.1 (fX3_put (nI N) mvs tna kt twi ff cv x1 x2).2.2.2 (fX3_put (nI N) mvs tna kt twi ff cv x1 x2).1) := by
  have hN := I.hN
  rcases I.pres x1 with ⟨k, hk, rfl, hia, hfa⟩ | ⟨hno, hab⟩
  · obtain ⟨hi, hf, hc⟩ := I.kd_ok k (by omega)
    obtain ⟨n1, n2, n3, n4, n5, n6⟩ := I.na_ne k hk
    have hR := put_eq (made := nI N) (mvs := mvs) (tna := tna) (kr := tna) (kt := kt) (twi := twi) (kw := twi) (fa := fa) hi hk hN hf hc x2
    rw [show (fX3_put (nI N) mvs tna kt twi ff cv (nI k) x2).2.2.2 = _ from hR.1]
    refine ⟨_, _, _, _, c_L_put l hfl D tys ad L g ob arr (na k) out (nI N) mvs twi tna fa (kd k) (cv (7 * k + 0)) (cv (7 * k + 1)) (cv (7 * k + 2)) (cv (7 * k + 3)) (cv (7 * k + 4)) (cv (7 * k + 5)) (cv (7 * k + 6)) (nI k) x2 fo hi I.L_ob I.L_arr (I.L_na k hk) hB.1 hB.2.1 (hB.2.2 k hk) n1.symm I.ob_arr.symm n2.symm n1 htN hia hfa I.L_out hO htJ n3.symm n3 I.ob_out.symm I.ob_out, rfl, rfl, (by decide), (by decide), (by decide), (by decide), fun g1 hp => ?_⟩
    have := hp_mvr I hB hO hk hR (fun v : Int64 => v) hp.1 hp.2
    rw [hR.1] at this
    exact this
  · rw [put_out hN hno]
    exact ⟨_, _, _, _, (c_L_put_no l hfl D tys ad L g ob arr out (nI N) mvs twi tna fa x1 x2 fo I.L_ob I.L_arr hB.1 hB.2.1 htN hab I.L_out hO htJ), rfl, rfl, (by decide), (by decide), (by decide), (by decide), fun g1 hp => hp_no I hB hO n1_ne _ hp⟩
set_option maxRecDepth 100000 in
theorem u_turn (l : Launch) (hfl : l.stackTraces = false) (I : ST ob arr out om fz cj L N kd na fa ff cv) (hB : BS ad cyN ob arr N kd na fa mvs twi tna cv g) (hO : g out = .inl (cyJ, 1, .inr (.inl fo))) (htN : tys[2]? = some (cyN, .object RX1)) (htJ : tys[0]? = some (cyJ, .long)) (kt : Int32) (x1 : Int32) (x2 : Int64) : UM l yL_turn wsL_turn D tys ad L g [.ref ob, .int x1, .long x2, .ref out] (some (.int (fX3_turn (nI N) mvs tna kt twi ff cv x1 x2).2.2.2)) (HP ad cyJ cyN ob arr out om fz cj N kd na fa twi tna g (fX3_turn (nI N) mvs tna kt twi ff cv x1 x2).2.2.1 (fX3_turn (nI N) mvs tna kt twi ff cv x1 x2).2.1 (fX3_turn (nI N) mvs tna kt twi ff cv x1 x2).2.2.2 (fX3_turn (nI N) mvs tna kt twi ff cv x1 x2).1) := by
  have hN := I.hN
  rcases I.pres x1 with ⟨k, hk, rfl, hia, hfa⟩ | ⟨hno, hab⟩
  · obtain ⟨hi, hf, hc⟩ := I.kd_ok k (by omega)
    obtain ⟨n1, n2, n3, n4, n5, n6⟩ := I.na_ne k hk
    have hR := turn_eq (made := nI N) (mvs := mvs) (tna := tna) (kr := tna) (kt := kt) (twi := twi) (kw := twi) (fa := fa) hi hk hN hf hc x2
    rw [show (fX3_turn (nI N) mvs tna kt twi ff cv (nI k) x2).2.2.2 = _ from hR.1]
    refine ⟨_, _, _, _, c_L_turn l hfl D tys ad L g ob arr (na k) out (nI N) mvs twi tna fa (kd k) (cv (7 * k + 0)) (cv (7 * k + 1)) (cv (7 * k + 2)) (cv (7 * k + 3)) (cv (7 * k + 4)) (cv (7 * k + 5)) (cv (7 * k + 6)) (nI k) x2 fo hi I.L_ob I.L_arr (I.L_na k hk) hB.1 hB.2.1 (hB.2.2 k hk) n1.symm I.ob_arr.symm n2.symm n1 htN hia hfa I.L_out hO htJ n3.symm n3 I.ob_out.symm I.ob_out, rfl, rfl, (by decide), (by decide), (by decide), (by decide), fun g1 hp => ?_⟩
    have := hp_mvr I hB hO hk hR (fun v : Int64 => v) hp.1 hp.2
    rw [hR.1] at this
    exact this
  · rw [turn_out hN hno]
    exact ⟨_, _, _, _, (c_L_turn_no l hfl D tys ad L g ob arr out (nI N) mvs twi tna fa x1 x2 fo I.L_ob I.L_arr hB.1 hB.2.1 htN hab I.L_out hO htJ), rfl, rfl, (by decide), (by decide), (by decide), (by decide), fun g1 hp => hp_no I hB hO n1_ne _ hp⟩
set_option maxRecDepth 100000 in
theorem u_pull (l : Launch) (hfl : l.stackTraces = false) (I : ST ob arr out om fz cj L N kd na fa ff cv) (hB : BS ad cyN ob arr N kd na fa mvs twi tna cv g) (hO : g out = .inl (cyJ, 1, .inr (.inl fo))) (htN : tys[2]? = some (cyN, .object RX1)) (htJ : tys[0]? = some (cyJ, .long)) (kt : Int32) (x1 : Int32) (x2 : Int64) : UM l yL_pull wsL_pull D tys ad L g [.ref ob, .int x1, .long x2, .ref out] (some (.int (fX3_pull (nI N) mvs tna kt twi ff cv x1 x2).2.2.2)) (HP ad cyJ cyN ob arr out om fz cj N kd na fa twi tna g (fX3_pull (nI N) mvs tna kt twi ff cv x1 x2).2.2.1 (fX3_pull (nI N) mvs tna kt twi ff cv x1 x2).2.1 (fX3_pull (nI N) mvs tna kt twi ff cv x1 x2).2.2.2 (if (fX3_pull (nI N) mvs tna kt twi ff cv x1 x2).1 = 0 then (0 : Int64) else 1)) := by
  have hN := I.hN
  rcases I.pres x1 with ⟨k, hk, rfl, hia, hfa⟩ | ⟨hno, hab⟩
  · obtain ⟨hi, hf, hc⟩ := I.kd_ok k (by omega)
    obtain ⟨n1, n2, n3, n4, n5, n6⟩ := I.na_ne k hk
    have hR := pull_eq (made := nI N) (mvs := mvs) (tna := tna) (kr := tna) (kt := kt) (twi := twi) (kw := twi) (fa := fa) hi hk hN hf hc x2
    rw [show (fX3_pull (nI N) mvs tna kt twi ff cv (nI k) x2).2.2.2 = _ from hR.1]
    refine ⟨_, _, _, _, c_L_pull l hfl D tys ad L g ob arr (na k) out (nI N) mvs twi tna fa (kd k) (cv (7 * k + 0)) (cv (7 * k + 1)) (cv (7 * k + 2)) (cv (7 * k + 3)) (cv (7 * k + 4)) (cv (7 * k + 5)) (cv (7 * k + 6)) (nI k) x2 fo hi I.L_ob I.L_arr (I.L_na k hk) hB.1 hB.2.1 (hB.2.2 k hk) n1.symm I.ob_arr.symm n2.symm n1 htN hia hfa I.L_out hO htJ n3.symm n3 I.ob_out.symm I.ob_out, rfl, rfl, (by decide), (by decide), (by decide), (by decide), fun g1 hp => ?_⟩
    have := hp_mvr I hB hO hk hR (fun b : Int32 => if b = 0 then (0 : Int64) else 1) hp.1 hp.2
    rw [hR.1] at this
    exact this
  · rw [pull_out hN hno]
    exact ⟨_, _, _, _, (c_L_pull_no l hfl D tys ad L g ob arr out (nI N) mvs twi tna fa x1 x2 fo I.L_ob I.L_arr hB.1 hB.2.1 htN hab I.L_out hO htJ), rfl, rfl, (by decide), (by decide), (by decide), (by decide), fun g1 hp => hp_no I hB hO n1_ne _ hp⟩
set_option maxRecDepth 100000 in
theorem u_rest (l : Launch) (hfl : l.stackTraces = false) (I : ST ob arr out om fz cj L N kd na fa ff cv) (hB : BS ad cyN ob arr N kd na fa mvs twi tna cv g) (hO : g out = .inl (cyJ, 1, .inr (.inl fo))) (htN : tys[2]? = some (cyN, .object RX1)) (htJ : tys[0]? = some (cyJ, .long)) (kt : Int32) (x1 : Int32) (x2 : Int32) : UM l yL_rest wsL_rest D tys ad L g [.ref ob, .int x1, .int x2, .ref out] (some (.int (fX3_rest (nI N) mvs tna kt twi ff cv x1 x2).2.2.2)) (HP ad cyJ cyN ob arr out om fz cj N kd na fa twi tna g (fX3_rest (nI N) mvs tna kt twi ff cv x1 x2).2.2.1 (fX3_rest (nI N) mvs tna kt twi ff cv x1 x2).2.1 (fX3_rest (nI N) mvs tna kt twi ff cv x1 x2).2.2.2 (fX3_rest (nI N) mvs tna kt twi ff cv x1 x2).1) := by
  have hN := I.hN
  rcases I.pres x1 with ⟨k, hk, rfl, hia, hfa⟩ | ⟨hno, hab⟩
  · obtain ⟨hi, hf, hc⟩ := I.kd_ok k (by omega)
    obtain ⟨n1, n2, n3, n4, n5, n6⟩ := I.na_ne k hk
    have hR := rest_eq (made := nI N) (mvs := mvs) (tna := tna) (kr := tna) (kt := kt) (twi := twi) (kw := twi) (fa := fa) hi hk hN hf hc x2
    rw [show (fX3_rest (nI N) mvs tna kt twi ff cv (nI k) x2).2.2.2 = _ from hR.1]
    refine ⟨_, _, _, _, c_L_rest l hfl D tys ad L g ob arr (na k) out (nI N) mvs twi tna fa (kd k) (cv (7 * k + 0)) (cv (7 * k + 1)) (cv (7 * k + 2)) (cv (7 * k + 3)) (cv (7 * k + 4)) (cv (7 * k + 5)) (cv (7 * k + 6)) (nI k) x2 fo hi I.L_ob I.L_arr (I.L_na k hk) hB.1 hB.2.1 (hB.2.2 k hk) n1.symm I.ob_arr.symm n2.symm n1 htN hia hfa I.L_out hO htJ n3.symm n3 I.ob_out.symm I.ob_out, rfl, rfl, (by decide), (by decide), (by decide), (by decide), fun g1 hp => ?_⟩
    have := hp_mvr I hB hO hk hR (fun v : Int64 => v) hp.1 hp.2
    rw [hR.1] at this
    exact this
  · rw [rest_out hN hno]
    exact ⟨_, _, _, _, (c_L_rest_no l hfl D tys ad L g ob arr out (nI N) mvs twi tna fa x1 x2 fo I.L_ob I.L_arr hB.1 hB.2.1 htN hab I.L_out hO htJ), rfl, rfl, (by decide), (by decide), (by decide), (by decide), fun g1 hp => hp_no I hB hO n1_ne _ hp⟩
set_option maxRecDepth 100000 in
theorem u_damp (l : Launch) (hfl : l.stackTraces = false) (I : ST ob arr out om fz cj L N kd na fa ff cv) (hB : BS ad cyN ob arr N kd na fa mvs twi tna cv g) (hO : g out = .inl (cyJ, 1, .inr (.inl fo))) (htN : tys[2]? = some (cyN, .object RX1)) (htJ : tys[0]? = some (cyJ, .long)) (kt : Int32) (x1 : Int32) (x2 : Int64) : UM l yL_damp wsL_damp D tys ad L g [.ref ob, .int x1, .long x2, .ref out] (some (.int (fX3_damp (nI N) mvs tna kt twi ff cv x1 x2).2.2)) (HP ad cyJ cyN ob arr out om fz cj N kd na fa twi tna g mvs (fX3_damp (nI N) mvs tna kt twi ff cv x1 x2).2.1 (fX3_damp (nI N) mvs tna kt twi ff cv x1 x2).2.2 (fX3_damp (nI N) mvs tna kt twi ff cv x1 x2).1) := by
  have hN := I.hN
  rcases I.pres x1 with ⟨k, hk, rfl, hia, hfa⟩ | ⟨hno, hab⟩
  · obtain ⟨hi, hf, hc⟩ := I.kd_ok k (by omega)
    obtain ⟨n1, n2, n3, n4, n5, n6⟩ := I.na_ne k hk
    obtain ⟨r, cv', e1, e2, e3, e4⟩ := damp_eq (made := nI N) (mvs := mvs) (tna := tna) (kr := tna) (kt := kt) (twi := twi) (kw := twi) (fa := fa) hi hk hN hf hc x2 _ rfl
    rw [e1]
    refine ⟨_, _, _, _, c_L_damp l hfl D tys ad L g ob arr (na k) out (nI N) mvs twi tna fa (kd k) (cv (7 * k + 0)) (cv (7 * k + 1)) (cv (7 * k + 2)) (cv (7 * k + 3)) (cv (7 * k + 4)) (cv (7 * k + 5)) (cv (7 * k + 6)) (nI k) x2 fo hi I.L_ob I.L_arr (I.L_na k hk) hB.1 hB.2.1 (hB.2.2 k hk) n1.symm n2.symm htN hia hfa I.L_out hO htJ n3.symm n3, rfl, rfl, (by decide), (by decide), (by decide), (by decide), fun g1 hp => ?_⟩
    generalize fX2_damp (nI N) mvs twi tna fa (kd k) (cv (7 * k + 0)) (cv (7 * k + 1)) (cv (7 * k + 2)) (cv (7 * k + 3)) (cv (7 * k + 4)) (cv (7 * k + 5)) (cv (7 * k + 6)) (nI k) x2 = c at *
    by_cases z : c.1 = 0
    · obtain ⟨f1, f2, f3, f4⟩ := e3 z
      obtain ⟨p1, p3, p4⟩ := hp.1 z
      refine hp_mv I hB hk f3 (fun j hj => f4 j (by omega)) (fun _ => ?_) ?_ ((p4 ob n1.symm I.ob_out).trans hB.1) p3 (fun q q1 q2 q3 => p4 q q1 q3)
      · show vp_updL fo 0 c.2.1 0 = r
        unfold vp_updL; rw [if_pos rfl, f1]
      · unfold ndC
        rw [f4 (7 * k + 0) (by omega), f4 (7 * k + 1) (by omega), f4 (7 * k + 2) (by omega), f4 (7 * k + 4) (by omega), f4 (7 * k + 5) (by omega), f4 (7 * k + 6) (by omega), ← f2]
        exact p1
    · rw [e4 z]
      exact hp_no I hB hO (nI_no e2 z) _ (hp.2 z)
  · rw [damp_out hN hno]
    exact ⟨_, _, _, _, (c_L_damp_no l hfl D tys ad L g ob arr out (nI N) mvs twi tna fa x1 x2 fo I.L_ob I.L_arr hB.1 hB.2.1 htN hab I.L_out hO htJ), rfl, rfl, (by decide), (by decide), (by decide), (by decide), fun g1 hp => hp_no I hB hO n1_ne _ hp⟩
set_option maxRecDepth 100000 in
theorem u_face (l : Launch) (hfl : l.stackTraces = false) (I : ST ob arr out om fz cj L N kd na fa ff cv) (hB : BS ad cyN ob arr N kd na fa mvs twi tna cv g) (hO : g out = .inl (cyJ, 1, .inr (.inl fo))) (htN : tys[2]? = some (cyN, .object RX1)) (htJ : tys[0]? = some (cyJ, .long)) (kt : Int32) (x1 x2 : Int32) : UM l yL_face wsL_face D tys ad L g [.ref ob, .int x1, .int x2, .ref out] (some (.int (fX3_face (nI N) mvs tna kt twi ff cv x1 x2).2.2.2)) (HP ad cyJ cyN ob arr out om fz cj N kd na fa twi tna g (fX3_face (nI N) mvs tna kt twi ff cv x1 x2).2.2.1 (fX3_face (nI N) mvs tna kt twi ff cv x1 x2).2.1 (fX3_face (nI N) mvs tna kt twi ff cv x1 x2).2.2.2 (fX3_face (nI N) mvs tna kt twi ff cv x1 x2).1) := by
  have hN := I.hN
  rcases I.pres x1 with ⟨k, hk, rfl, hia, hfa⟩ | ⟨hno, hab⟩
  · obtain ⟨hi, hf, hc⟩ := I.kd_ok k (by omega)
    obtain ⟨n1, n2, n3, n4, n5, n6⟩ := I.na_ne k hk
    rcases I.pres x2 with ⟨j, hj, rfl, hia2, hfa2⟩ | ⟨hno2, hab2⟩
    · obtain ⟨hi2, hf2, hc2⟩ := I.kd_ok j (by omega)
      obtain ⟨m1, m2, m3, m4, m5, m6⟩ := I.na_ne j hj
      by_cases ejk : j = k
      · subst ejk
        have hR := face_s_eq (made := nI N) (mvs := mvs) (tna := tna) (kr := tna) (kt := kt) (twi := twi) (kw := twi) (fa := fa) hi hk hN hf hc
        rw [show (fX3_face (nI N) mvs tna kt twi ff cv (nI j) (nI j)).2.2.2 = _ from hR.1]
        refine ⟨_, _, _, _, c_L_face_s l hfl D tys ad L g ob arr (na j) out (nI N) mvs twi tna fa (kd j) (cv (7 * j + 0)) (cv (7 * j + 1)) (cv (7 * j + 2)) (cv (7 * j + 3)) (cv (7 * j + 4)) (cv (7 * j + 5)) (cv (7 * j + 6)) (nI j) (nI j) fo hi I.L_ob I.L_arr (I.L_na j hj) hB.1 hB.2.1 (hB.2.2 j hj) n1.symm I.ob_arr.symm n2.symm n1 htN hia hfa hia2 hfa2 I.L_out hO htJ n3.symm n3 I.ob_out.symm I.ob_out, rfl, rfl, (by decide), (by decide), (by decide), (by decide), fun g1 hp => ?_⟩
        have := hp_mvr I hB hO hk hR (fun v : Int64 => v) hp.1 hp.2
        rw [hR.1] at this
        exact this
      · have hR := face_eq (made := nI N) (mvs := mvs) (tna := tna) (kr := tna) (kt := kt) (twi := twi) (kw := twi) (fa := fa) hi hi2 hk hj hN hf hc hc2
        rw [show (fX3_face (nI N) mvs tna kt twi ff cv (nI k) (nI j)).2.2.2 = _ from hR.1]
        refine ⟨_, _, _, _, c_L_face l hfl D tys ad L g ob arr (na k) (na j) out (nI N) mvs twi tna fa (kd k) (cv (7 * k + 0)) (cv (7 * k + 1)) (cv (7 * k + 2)) (cv (7 * k + 3)) (cv (7 * k + 4)) (cv (7 * k + 5)) (cv (7 * k + 6)) (kd j) (cv (7 * j + 0)) (cv (7 * j + 1)) (cv (7 * j + 2)) (cv (7 * j + 3)) (cv (7 * j + 4)) (cv (7 * j + 5)) (cv (7 * j + 6)) (nI k) (nI j) fo hi hi2 I.L_ob I.L_arr (I.L_na k hk) (I.L_na j hj) hB.1 hB.2.1 (hB.2.2 k hk) (hB.2.2 j hj) n1.symm I.ob_arr.symm n2.symm n1 m1 (fun z => ejk (I.na_inj j k hj hk z)) htN hia hfa hia2 hfa2 I.L_out hO htJ n3.symm n3 I.ob_out.symm I.ob_out, rfl, rfl, (by decide), (by decide), (by decide), (by decide), fun g1 hp => ?_⟩
        have := hp_mvr I hB hO hk hR (fun v : Int64 => v) hp.1 hp.2
        rw [hR.1] at this
        exact this
    · rw [face_out2 hk hN hno2]
      exact ⟨_, _, _, _, c_L_face_no2 l hfl D tys ad L g ob arr (na k) out (nI N) mvs twi tna fa (kd k) (cv (7 * k + 0)) (cv (7 * k + 1)) (cv (7 * k + 2)) (cv (7 * k + 3)) (cv (7 * k + 4)) (cv (7 * k + 5)) (cv (7 * k + 6)) (nI k) x2 fo hi I.L_ob I.L_arr (I.L_na k hk) hB.1 hB.2.1 (hB.2.2 k hk) htN hia hfa hab2 I.L_out hO htJ, rfl, rfl, (by decide), (by decide), (by decide), (by decide), fun g1 hp => hp_no I hB hO n1_ne _ hp⟩
  · rw [face_out hN hno]
    exact ⟨_, _, _, _, (c_L_face_no l hfl D tys ad L g ob arr out (nI N) mvs twi tna fa x1 x2 fo I.L_ob I.L_arr hB.1 hB.2.1 htN hab I.L_out hO htJ), rfl, rfl, (by decide), (by decide), (by decide), (by decide), fun g1 hp => hp_no I hB hO n1_ne _ hp⟩
set_option maxRecDepth 100000 in
theorem u_read (l : Launch) (hfl : l.stackTraces = false) (I : ST ob arr out om fz cj L N kd na fa ff cv) (hB : BS ad cyN ob arr N kd na fa mvs twi tna cv g) (hO : g out = .inl (cyJ, 1, .inr (.inl fo))) (htN : tys[2]? = some (cyN, .object RX1)) (htJ : tys[0]? = some (cyJ, .long)) (kt : Int32) (x1 x2 : Int32) : UM l yL_read wsL_read D tys ad L g [.ref ob, .int x1, .int x2, .ref out] (some (.int (fX3_read (nI N) mvs tna kt twi ff cv x1 x2).2)) (HP ad cyJ cyN ob arr out om fz cj N kd na fa twi tna g mvs cv (fX3_read (nI N) mvs tna kt twi ff cv x1 x2).2 (fX3_read (nI N) mvs tna kt twi ff cv x1 x2).1) := by
  have hN := I.hN
  rcases I.pres x1 with ⟨k, hk, rfl, hia, hfa⟩ | ⟨hno, hab⟩
  · obtain ⟨hi, hf, hc⟩ := I.kd_ok k (by omega)
    obtain ⟨e1, e2⟩ := read_eq (made := nI N) (mvs := mvs) (tna := tna) (kr := tna) (kt := kt) (twi := twi) (kw := twi) (fa := fa) hi hk hN hf hc x2 _ rfl
    rw [e1]
    exact ⟨_, _, _, _, c_L_read l hfl D tys ad L g ob arr (na k) out (nI N) mvs twi tna fa (kd k) (cv (7 * k + 0)) (cv (7 * k + 1)) (cv (7 * k + 2)) (cv (7 * k + 3)) (cv (7 * k + 4)) (cv (7 * k + 5)) (cv (7 * k + 6)) (nI k) x2 fo hi I.L_ob I.L_arr (I.L_na k hk) hB.1 hB.2.1 (hB.2.2 k hk) htN hia hfa I.L_out hO htJ, rfl, rfl, (by decide), (by decide), (by decide), (by decide), fun g1 hp => hp_rd I hB hO e2 rfl hp.1 hp.2⟩
  · rw [read_out hN hno]
    exact ⟨_, _, _, _, (c_L_read_no l hfl D tys ad L g ob arr out (nI N) mvs twi tna fa x1 x2 fo I.L_ob I.L_arr hB.1 hB.2.1 htN hab I.L_out hO htJ), rfl, rfl, (by decide), (by decide), (by decide), (by decide), fun g1 hp => hp_no I hB hO n1_ne _ hp⟩
set_option maxRecDepth 100000 in
theorem u_between (l : Launch) (hfl : l.stackTraces = false) (I : ST ob arr out om fz cj L N kd na fa ff cv) (hB : BS ad cyN ob arr N kd na fa mvs twi tna cv g) (hO : g out = .inl (cyJ, 1, .inr (.inl fo))) (htN : tys[2]? = some (cyN, .object RX1)) (htJ : tys[0]? = some (cyJ, .long)) (kt : Int32) (x1 x2 : Int32) (x3 : Int32) : UM l yL_between wsL_between D tys ad L g [.ref ob, .int x1, .int x2, .int x3, .ref out] (some (.int (fX3_between (nI N) mvs tna kt twi ff cv x1 x2 x3).2)) (HP ad cyJ cyN ob arr out om fz cj N kd na fa twi tna g mvs cv (fX3_between (nI N) mvs tna kt twi ff cv x1 x2 x3).2 (fX3_between (nI N) mvs tna kt twi ff cv x1 x2 x3).1) := by
  have hN := I.hN
  rcases I.pres x1 with ⟨k, hk, rfl, hia, hfa⟩ | ⟨hno, hab⟩
  · obtain ⟨hi, hf, hc⟩ := I.kd_ok k (by omega)
    rcases I.pres x2 with ⟨j, hj, rfl, hia2, hfa2⟩ | ⟨hno2, hab2⟩
    · obtain ⟨hi2, hf2, hc2⟩ := I.kd_ok j (by omega)
      by_cases ejk : j = k
      · subst ejk
        obtain ⟨e1, e2⟩ := btw_s (made := nI N) (mvs := mvs) (tna := tna) (kr := tna) (kt := kt) (twi := twi) (kw := twi) (fa := fa) hi hk hN hf hc x3 _ rfl
        rw [e1]
        exact ⟨_, _, _, _, c_L_between_s l hfl D tys ad L g ob arr (na j) out (nI N) mvs twi tna fa (kd j) (cv (7 * j + 0)) (cv (7 * j + 1)) (cv (7 * j + 2)) (cv (7 * j + 3)) (cv (7 * j + 4)) (cv (7 * j + 5)) (cv (7 * j + 6)) (nI j) (nI j) x3 fo hi I.L_ob I.L_arr (I.L_na j hj) hB.1 hB.2.1 (hB.2.2 j hj) htN hia hfa hia2 hfa2 I.L_out hO htJ, rfl, rfl, (by decide), (by decide), (by decide), (by decide), fun g1 hp => hp_rd I hB hO e2 rfl hp.1 hp.2⟩
      · obtain ⟨e1, e2⟩ := btw_eq (made := nI N) (mvs := mvs) (tna := tna) (kr := tna) (kt := kt) (twi := twi) (kw := twi) (fa := fa) hi hi2 hk hj hN hf hf2 hc hc2 x3 _ rfl
        rw [e1]
        exact ⟨_, _, _, _, c_L_between l hfl D tys ad L g ob arr (na k) (na j) out (nI N) mvs twi tna fa (kd k) (cv (7 * k + 0)) (cv (7 * k + 1)) (cv (7 * k + 2)) (cv (7 * k + 3)) (cv (7 * k + 4)) (cv (7 * k + 5)) (cv (7 * k + 6)) (kd j) (cv (7 * j + 0)) (cv (7 * j + 1)) (cv (7 * j + 2)) (cv (7 * j + 3)) (cv (7 * j + 4)) (cv (7 * j + 5)) (cv (7 * j + 6)) (nI k) (nI j) x3 fo hi hi2 I.L_ob I.L_arr (I.L_na k hk) (I.L_na j hj) hB.1 hB.2.1 (hB.2.2 k hk) (hB.2.2 j hj) htN hia hfa hia2 hfa2 I.L_out hO htJ, rfl, rfl, (by decide), (by decide), (by decide), (by decide), fun g1 hp => hp_rd I hB hO e2 rfl hp.1 hp.2⟩
    · rw [btw_out2 hk hN hno2]
      exact ⟨_, _, _, _, c_L_between_no2 l hfl D tys ad L g ob arr (na k) out (nI N) mvs twi tna fa (kd k) (cv (7 * k + 0)) (cv (7 * k + 1)) (cv (7 * k + 2)) (cv (7 * k + 3)) (cv (7 * k + 4)) (cv (7 * k + 5)) (cv (7 * k + 6)) (nI k) x2 x3 fo hi I.L_ob I.L_arr (I.L_na k hk) hB.1 hB.2.1 (hB.2.2 k hk) htN hia hfa hab2 I.L_out hO htJ, rfl, rfl, (by decide), (by decide), (by decide), (by decide), fun g1 hp => hp_no I hB hO n1_ne _ hp⟩
  · rw [btw_out hN hno]
    exact ⟨_, _, _, _, (c_L_between_no l hfl D tys ad L g ob arr out (nI N) mvs twi tna fa x1 x2 x3 fo I.L_ob I.L_arr hB.1 hB.2.1 htN hab I.L_out hO htJ), rfl, rfl, (by decide), (by decide), (by decide), (by decide), fun g1 hp => hp_no I hB hO n1_ne _ hp⟩
set_option maxRecDepth 100000 in
theorem u_order (l : Launch) (hfl : l.stackTraces = false) (I : ST ob arr out om fz cj L N kd na fa ff cv) (hB : BS ad cyN ob arr N kd na fa mvs twi tna cv g) (hO : g out = .inl (cyJ, 1, .inr (.inl fo))) (htN : tys[2]? = some (cyN, .object RX1)) (htJ : tys[0]? = some (cyJ, .long)) (kt : Int32) (x1 x2 : Int32) : UM l yL_order wsL_order D tys ad L g [.ref ob, .int x1, .int x2, .ref out] (some (.int (fX3_order (nI N) mvs tna kt twi ff cv x1 x2).2)) (HP ad cyJ cyN ob arr out om fz cj N kd na fa twi tna g mvs cv (fX3_order (nI N) mvs tna kt twi ff cv x1 x2).2 ((fX3_order (nI N) mvs tna kt twi ff cv x1 x2).1).toInt64) := by
  have hN := I.hN
  rcases I.pres x1 with ⟨k, hk, rfl, hia, hfa⟩ | ⟨hno, hab⟩
  · obtain ⟨hi, hf, hc⟩ := I.kd_ok k (by omega)
    rcases I.pres x2 with ⟨j, hj, rfl, hia2, hfa2⟩ | ⟨hno2, hab2⟩
    · obtain ⟨hi2, hf2, hc2⟩ := I.kd_ok j (by omega)
      by_cases ejk : j = k
      · subst ejk
        obtain ⟨e1, e2⟩ := ord_s (made := nI N) (mvs := mvs) (tna := tna) (kr := tna) (kt := kt) (twi := twi) (kw := twi) (fa := fa) hi hk hN hf hc _ rfl
        rw [e1]
        exact ⟨_, _, _, _, c_L_order_s l hfl D tys ad L g ob arr (na j) out (nI N) mvs twi tna fa (kd j) (cv (7 * j + 0)) (cv (7 * j + 1)) (cv (7 * j + 2)) (cv (7 * j + 3)) (cv (7 * j + 4)) (cv (7 * j + 5)) (cv (7 * j + 6)) (nI j) (nI j) fo hi I.L_ob I.L_arr (I.L_na j hj) hB.1 hB.2.1 (hB.2.2 j hj) htN hia hfa hia2 hfa2 I.L_out hO htJ, rfl, rfl, (by decide), (by decide), (by decide), (by decide), fun g1 hp => hp_rd I hB hO e2 rfl hp.1 hp.2⟩
      · obtain ⟨e1, e2⟩ := ord_eq (made := nI N) (mvs := mvs) (tna := tna) (kr := tna) (kt := kt) (twi := twi) (kw := twi) (fa := fa) hi hi2 hk hj hN hf hf2 hc hc2 _ rfl
        rw [e1]
        exact ⟨_, _, _, _, c_L_order l hfl D tys ad L g ob arr (na k) (na j) out (nI N) mvs twi tna fa (kd k) (cv (7 * k + 0)) (cv (7 * k + 1)) (cv (7 * k + 2)) (cv (7 * k + 3)) (cv (7 * k + 4)) (cv (7 * k + 5)) (cv (7 * k + 6)) (kd j) (cv (7 * j + 0)) (cv (7 * j + 1)) (cv (7 * j + 2)) (cv (7 * j + 3)) (cv (7 * j + 4)) (cv (7 * j + 5)) (cv (7 * j + 6)) (nI k) (nI j) fo hi hi2 I.L_ob I.L_arr (I.L_na k hk) (I.L_na j hj) hB.1 hB.2.1 (hB.2.2 k hk) (hB.2.2 j hj) htN hia hfa hia2 hfa2 I.L_out hO htJ, rfl, rfl, (by decide), (by decide), (by decide), (by decide), fun g1 hp => hp_rd I hB hO e2 rfl hp.1 hp.2⟩
    · rw [ord_out2 hk hN hno2]
      exact ⟨_, _, _, _, c_L_order_no2 l hfl D tys ad L g ob arr (na k) out (nI N) mvs twi tna fa (kd k) (cv (7 * k + 0)) (cv (7 * k + 1)) (cv (7 * k + 2)) (cv (7 * k + 3)) (cv (7 * k + 4)) (cv (7 * k + 5)) (cv (7 * k + 6)) (nI k) x2 fo hi I.L_ob I.L_arr (I.L_na k hk) hB.1 hB.2.1 (hB.2.2 k hk) htN hia hfa hab2 I.L_out hO htJ, rfl, rfl, (by decide), (by decide), (by decide), (by decide), fun g1 hp => hp_no I hB hO n1_ne _ hp⟩
  · rw [ord_out hN hno]
    exact ⟨_, _, _, _, (c_L_order_no l hfl D tys ad L g ob arr out (nI N) mvs twi tna fa x1 x2 fo I.L_ob I.L_arr hB.1 hB.2.1 htN hab I.L_out hO htJ), rfl, rfl, (by decide), (by decide), (by decide), (by decide), fun g1 hp => hp_no I hB hO n1_ne _ hp⟩
set_option maxRecDepth 100000 in
theorem u_back (l : Launch) (hfl : l.stackTraces = false) (I : ST ob arr out om fz cj L N kd na fa ff cv) (hB : BS ad cyN ob arr N kd na fa mvs twi tna cv g) (hO : g out = .inl (cyJ, 1, .inr (.inl fo))) (htN : tys[2]? = some (cyN, .object RX1)) (htJ : tys[0]? = some (cyJ, .long)) (kt : Int32) (x1 : Int32) : UM l yL_back wsL_back D tys ad L g [.ref ob, .int x1] (some (.int (fX3_back (nI N) mvs tna kt twi ff cv x1).2)) (HP ad cyJ cyN ob arr out om fz cj N kd na fa twi tna g mvs (fX3_back (nI N) mvs tna kt twi ff cv x1).1 1 0) := by
  have hN := I.hN
  rcases I.pres x1 with ⟨k, hk, rfl, hia, hfa⟩ | ⟨hno, hab⟩
  · obtain ⟨hi, hf, hc⟩ := I.kd_ok k (by omega)
    obtain ⟨n1, n2, n3, n4, n5, n6⟩ := I.na_ne k hk
    obtain ⟨cv', e1, e2, e3, e4⟩ := back_eq (made := nI N) (mvs := mvs) (tna := tna) (kr := tna) (kt := kt) (twi := twi) (kw := twi) (fa := fa) hi hk hN hf hc _ rfl
    rw [e1]
    have hM := c_L_back l hfl D tys ad L g ob arr (na k) (nI N) mvs twi tna fa (kd k) (cv (7 * k + 0)) (cv (7 * k + 1)) (cv (7 * k + 2)) (cv (7 * k + 3)) (cv (7 * k + 4)) (cv (7 * k + 5)) (cv (7 * k + 6)) (nI k) hi I.L_ob I.L_arr (I.L_na k hk) hB.1 hB.2.1 (hB.2.2 k hk) n1.symm n2.symm htN hia hfa
    rw [e2] at hM
    refine ⟨_, _, _, _, hM, rfl, rfl, (by decide), (by decide), (by decide), (by decide), fun g1 hp => ?_⟩
    obtain ⟨p1, p4⟩ := hp.1 rfl
    refine hp_mv I hB hk e3 (fun j hj => e4 j (by omega) (by omega) (by omega) (by omega)) (fun z => absurd z n1_ne) ?_ ((p4 ob n1.symm).trans hB.1) ((p4 out n3.symm).trans hO) (fun q q1 q2 q3 => p4 q q1)
    unfold ndC
    rw [e4 (7 * k + 0) (by omega) (by omega) (by omega) (by omega), e4 (7 * k + 1) (by omega) (by omega) (by omega) (by omega), e4 (7 * k + 3) (by omega) (by omega) (by omega) (by omega)]
    exact p1
  · rw [back_out hN hno]
    exact ⟨_, _, _, _, c_L_back_no l hfl D tys ad L g ob arr (nI N) mvs twi tna fa x1 I.L_ob I.L_arr hB.1 hB.2.1 htN hab, rfl, rfl, (by decide), (by decide), (by decide), (by decide), fun g1 hp => hp_no I hB hO n1_ne _ hp⟩
set_option maxRecDepth 100000 in
theorem u_tally (l : Launch) (hfl : l.stackTraces = false) (I : ST ob arr out om fz cj L N kd na fa ff cv) (hB : BS ad cyN ob arr N kd na fa mvs twi tna cv g) (hO : g out = .inl (cyJ, 1, .inr (.inl fo))) (htN : tys[2]? = some (cyN, .object RX1)) (htJ : tys[0]? = some (cyJ, .long)) (kt : Int32) (x1 x2 : Int32) (x3 : Int64) : UM l yL_tally wsL_tally D tys ad L g [.ref ob, .int x1, .int x2, .long x3, .ref out] (some (.int (fX3_tally (nI N) mvs tna kt twi ff cv x1 x2 x3).2.2.1)) (HP ad cyJ cyN ob arr out om fz cj N kd na fa (fX3_tally (nI N) mvs tna kt twi ff cv x1 x2 x3).2.2.2 (fX3_tally (nI N) mvs tna kt twi ff cv x1 x2 x3).2.1 g mvs cv (fX3_tally (nI N) mvs tna kt twi ff cv x1 x2 x3).2.2.1 (fX3_tally (nI N) mvs tna kt twi ff cv x1 x2 x3).1) := by
  obtain ⟨e1, e2⟩ := tally_eq (made := nI N) (mvs := mvs) (tna := tna) (kn := nI N) (kc := mvs) (kt := kt) (twi := twi) (ff := ff) (cv := cv) x1 x2 x3 _ rfl
  have e3 := tally_no (made := nI N) (mvs := mvs) (tna := tna) (twi := twi) x1 x2 x3
  rw [e1]
  refine ⟨_, _, _, _, c_L_tally l hfl D tys ad L g ob arr out (nI N) mvs twi tna x1 x2 x3 fo I.L_ob hB.1 I.L_out hO htJ I.ob_out.symm I.ob_out, rfl, rfl, (by decide), (by decide), (by decide), (by decide), fun g1 hp => ?_⟩
  generalize fX2_tally (nI N) mvs twi tna x1 x2 x3 = c at *
  by_cases z : c.1 = 0
  · obtain ⟨p1, p3, p4⟩ := hp.1 z
    refine ⟨⟨p1, (p4 arr I.ob_arr.symm I.arr_out).trans hB.2.1, fun k hk => (p4 (na k) (I.na_ne k hk).1 (I.na_ne k hk).2.2.1).trans (hB.2.2 k hk)⟩, fun k hk => (I.kd_ok k hk).2.2, ⟨_, p3, fun _ => ?_⟩, p4 om I.ob_om.symm I.out_om.symm, p4 fz I.ob_fz.symm I.out_fz.symm, p4 cj I.ob_cj.symm I.out_cj.symm⟩
    show vp_updL fo 0 c.2.1 0 = c.2.1
    unfold vp_updL; rw [if_pos rfl]
  · have e4 := e3 z
    have h2 : c.1 = 2 := e2.resolve_left z
    dsimp only
    rw [e4, h2]
    exact hp_no I hB hO n1_ne _ (hp.2 z)
end UL
