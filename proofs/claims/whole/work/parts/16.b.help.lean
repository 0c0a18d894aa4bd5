theorem nf_code (i : Nat) (x1 : Int64) : (fX2_numberFrom i x1).1 = 0 ∨ (fX2_numberFrom i x1).1 = 2 := by
  unfold fX2_numberFrom
  repeat' split
  all_goals simp
theorem hd_L_put : yL_put.cls ≠ "java/lang/invoke/MethodHandle" ∧ yL_put.cls ≠ "java/lang/invoke/VarHandle" ∧ (parseMethodDescriptor yL_put.desc).map (fun d => d.parameters.length) = some 4 := by decide +kernel
set_option maxHeartbeats 1000000 in
set_option maxRecDepth 100000 in
theorem c_L_put_no (l : Launch) (hfl : l.stackTraces = false) {cyJ : ClassId} {cyN : ClassId} (D : va_G) (tys : List (ClassId × FieldType)) (ad : Nat → Nat) (L : List Nat) (g : Nat → va_E) (ob arr out : Nat) (made : Int32) (mvs : Int32) (twi : Int64) (tna : Int32) (fa : Nat → Option Nat) (x1 : Int32) (x2 : Int64) (fo : Nat → Int64) (hL_ob : ob ∈ L) (hL_arr : arr ∈ L) (hg_ob : g ob = .inr (2, [.ref arr, .int made, .int mvs, .long twi, .int tna])) (hg_arr : g arr = .inl (cyN, 8, .inr (.inr (.inr (.inr fa))))) (htN : tys[2]? = some (cyN, .object RX1)) (hab : ¬ vp_in x1 8 ∨ fa x1.toNatClampNeg = none) (hL_out : out ∈ L) (hg_out : g out = .inl (cyJ, 1, .inr (.inl fo))) (htJ : tys[0]? = some (cyJ, .long)) : Met l yL_put wsL_put ({ frames := 8, cells := 1, slots := 6, locals := 128 }) (PW D tys ad L g [.ref ob, .int x1, .long x2, .ref out]) (QE D tys ad L (some (.int (nI (1)))) (fun g1 => ∀ q : Nat, g1 q = g q)) 1 6 (fun q => q ∈ L) := by
  refine va_MetW (cc := cL_put) (maxL := 6) (ret := some .int) (hh := [(0, 10, 13, 21), (0, 10, 17, 13)]) (by decide) rfl ?_
  intro p e s m args below meth c s₁ B hml hv
  obtain ⟨rfl, ⟨hP, hK, hD0, hKC0, hTC⟩, hXN⟩ := hv
  have hD : va_D (fun q => q ∈ L) (va_pl L g) := we_D (fun _ h => h) hD0
  have hKC : KC ad (fun q => q ∈ L) s s.heap := hKC0.narrow (fun _ h => Or.inl h)
  have hS : va_S (fun q => q ∈ L) s.heap s.heap [] := va_S.rf
  have hx := B.exec
  have hb := B.bytes
  have hr := B.returns
  have hts := atoms_spec (ws := wsL_put) B.pre
  have hown : s.vm.findClass RL = some m.cls := findClass_of_methodNamed B.named
  have hlocks := B.notSynchronized
  have hT := vx_table (x := yL_put) B (hts _ List.mem_cons_self)
  have hl := lv_entry ([.ref ob, .int x1, .long x2, .ref out]) (n := 6) (Nat.le_of_ble_eq_true rfl)
  rw [lg_entry_eq]
  generalize (lg_sl ([.ref ob, .int x1, .long x2, .ref out]) ++ List.replicate (6 - (lg_sl ([.ref ob, .int x1, .long x2, .ref out])).length) Slot.unset).toArray = ls at hl ⊢
  have hl : lv_has ls 6 [(0, .ref ob), (1, .int x1), (2, .long x2), (4, .ref out)] := hl
  refine lv_aload hx hb dL_put_0 (lv_at hl 3 rfl) ?_
  refine lv_iconst (v := 0) hx hb dL_put_2 (by decide) ?_
  refine lv_aload_n hx hb dL_put_3 rfl (lv_at hl 0 rfl) ?_
  refine lv_iload_n hx hb dL_put_4 rfl (lv_at hl 1 rfl) ?_
  refine lv_lload_n hx hb dL_put_5 rfl (lv_at hl 2 rfl) ?_
  refine hr_V (b := ob) (As := [.int x1, .long x2]) (rest := [.int (0 : Int32), .ref out]) ⟨hx, hb, hml, hown, hts⟩ (c_X2_put_no l hfl D tys ad L g ob arr made mvs twi tna fa x1 x2 hL_ob hL_arr hg_ob hg_arr htN hab) (cwV 2 hts gL_put_X2_put rfl rfl rfl hd_X2_put ⟨Nat.le_of_ble_eq_true rfl, Nat.le_of_ble_eq_true rfl⟩) (pg_recv hK hP hL_ob hg_ob rfl) (fun U hU hvm => WM hP hK hD hKC0 hTC hS hU hvm) hXN hS (fun _ h => h) rfl hl.1 rfl (lv_room (Nat.le_of_ble_eq_true rfl)) dL_put_6 ⟨Nat.le_of_ble_eq_true rfl, Nat.le_of_ble_eq_true rfl⟩ (fun E ce q9 H locs hxe hP hD hS hce hcv hcl => ?_) (fun hc0 => ?_)
  · rcases hxe with ⟨hc, rfl⟩ | ⟨hc, rfl⟩ | ⟨hc, rfl⟩
    · refine vx_catch (own := RL) (name := "java/util/NoSuchElementException") (E := nsN) hown [] ⟨0, 10, 13, 21⟩ [⟨0, 10, 17, 13⟩] (hT.trans rfl) (fun _ h => nomatch h) (by decide) (by decide) (hts (.classLink RL 21 "java/util/NoSuchElementException") (by decide +kernel)) (nw_use (w := .castable "java/util/NoSuchElementException" "java/util/NoSuchElementException") rfl (hXN.2 _ (by decide +kernel))) hce hcv hcl ?_
      refine lv_astore (lv' := [(5, .ref q9), (0, .ref ob), (1, .int x1), (2, .long x2), (4, .ref out)]) hx hb dL_put_13 hl (by decide) rfl (fun ls hl => ?_)
      refine lv_iconst (v := 1) hx hb dL_put_15 (by decide) ?_
      exact W.widen (k := 1) (n := 6) (Nat.le_of_ble_eq_true rfl) (Nat.le_of_ble_eq_true rfl) (W.iret hx hb hr (fun t ht hW => ⟨rfl, ⟨g, WM hP hK hD hKC0 hTC hS ht hW.alike, fun _ => rfl⟩, hS.F ht⟩) (fun q h => hS.2.2 q h) dL_put_16)
    · exact absurd hc (by decide)
    · exact absurd hc (by decide)
  · exact absurd hc0 (by decide)
theorem nc3_X2_put (made : Int32) (mvs : Int32) (twi : Int64) (tna : Int32) (fa : Nat → Option Nat) (i : Nat) (nlo : Int64) (nhi : Int64) (nv : Int64) (nst : Int64) (nhs : Int64) (nls : Int64) (ngs : Int64) (x1 : Int32) (x2 : Int64) : ¬ (fX2_put made mvs twi tna fa i nlo nhi nv nst nhs nls ngs x1 x2).1 = 3 := by
  unfold fX2_put
  try dsimp only
  repeat' split
  all_goals first | (simp; done) | (have h9 := nf_code i x2; simp only []; omega) | omega
set_option maxHeartbeats 1000000 in
set_option maxRecDepth 100000 in
theorem c_L_put (l : Launch) (hfl : l.stackTraces = false) {cyJ : ClassId} {cyN : ClassId} (D : va_G) (tys : List (ClassId × FieldType)) (ad : Nat → Nat) (L : List Nat) (g : Nat → va_E) (ob arr nd out : Nat) (made : Int32) (mvs : Int32) (twi : Int64) (tna : Int32) (fa : Nat → Option Nat) (i : Nat) (nlo : Int64) (nhi : Int64) (nv : Int64) (nst : Int64) (nhs : Int64) (nls : Int64) (ngs : Int64) (x1 : Int32) (x2 : Int64) (fo : Nat → Int64) (hi : i < 2) (hL_ob : ob ∈ L) (hL_arr : arr ∈ L) (hL_nd : nd ∈ L) (hg_ob : g ob = .inr (2, [.ref arr, .int made, .int mvs, .long twi, .int tna])) (hg_arr : g arr = .inl (cyN, 8, .inr (.inr (.inr (.inr fa))))) (hg_nd : g nd = .inr (1, [.ref (ad i), .long nlo, .long nhi, .long nv, .long nst, .long nhs, .long nls, .long ngs])) (ne_ob_nd : ob ≠ nd) (ne_arr_ob : arr ≠ ob) (ne_arr_nd : arr ≠ nd) (ne_nd_ob : nd ≠ ob) (htN : tys[2]? = some (cyN, .object RX1)) (hia : vp_in x1 8) (hfa : fa x1.toNatClampNeg = some nd) (hL_out : out ∈ L) (hg_out : g out = .inl (cyJ, 1, .inr (.inl fo))) (htJ : tys[0]? = some (cyJ, .long)) (ne_out_nd : out ≠ nd) (ne_nd_out : nd ≠ out) (ne_out_ob : out ≠ ob) (ne_ob_out : ob ≠ out) : Met l yL_put wsL_put ({ frames := 8, cells := 2, slots := 12, locals := 138 }) (PW D tys ad L g [.ref ob, .int x1, .long x2, .ref out]) (QE D tys ad L (some (.int (nI (((fX2_put made mvs twi tna fa i nlo nhi nv nst nhs nls ngs x1 x2).1))))) (fun g1 => (((fX2_put made mvs twi tna fa i nlo nhi nv nst nhs nls ngs x1 x2).1) = 0 → g1 nd = .inr (1, [.ref (ad i), .long nlo, .long nhi, .long ((fX2_put made mvs twi tna fa i nlo nhi nv nst nhs nls ngs x1 x2).2.2.1), .long nst, .long ((fX2_put made mvs twi tna fa i nlo nhi nv nst nhs nls ngs x1 x2).2.2.2.1), .long ((fX2_put made mvs twi tna fa i nlo nhi nv nst nhs nls ngs x1 x2).2.2.2.2.1), .long ((fX2_put made mvs twi tna fa i nlo nhi nv nst nhs nls ngs x1 x2).2.2.2.2.2.1)]) ∧ g1 ob = .inr (2, [.ref arr, .int made, .int ((fX2_put made mvs twi tna fa i nlo nhi nv nst nhs nls ngs x1 x2).2.2.2.2.2.2), .long twi, .int tna]) ∧ g1 out = .inl (cyJ, 1, .inr (.inl (vp_updL fo (0 : Int32).toNatClampNeg ((fX2_put made mvs twi tna fa i nlo nhi nv nst nhs nls ngs x1 x2).2.1)))) ∧ ∀ q : Nat, q ≠ nd → q ≠ ob → q ≠ out → g1 q = g q) ∧ (¬ ((fX2_put made mvs twi tna fa i nlo nhi nv nst nhs nls ngs x1 x2).1) = 0 → ∀ q : Nat, g1 q = g q))) 2 12 (fun q => q ∈ L) := by
  refine va_MetW (cc := cL_put) (maxL := 6) (ret := some .int) (hh := [(0, 10, 13, 21), (0, 10, 17, 13)]) (by decide) rfl ?_
  intro p e s m args below meth c s₁ B hml hv
  obtain ⟨rfl, ⟨hP, hK, hD0, hKC0, hTC⟩, hXN⟩ := hv
  have hD : va_D (fun q => q ∈ L) (va_pl L g) := we_D (fun _ h => h) hD0
  have hKC : KC ad (fun q => q ∈ L) s s.heap := hKC0.narrow (fun _ h => Or.inl h)
  have hS : va_S (fun q => q ∈ L) s.heap s.heap [] := va_S.rf
  have hx := B.exec
  have hb := B.bytes
  have hr := B.returns
  have hts := atoms_spec (ws := wsL_put) B.pre
  have hown : s.vm.findClass RL = some m.cls := findClass_of_methodNamed B.named
  have hlocks := B.notSynchronized
  have hT := vx_table (x := yL_put) B (hts _ List.mem_cons_self)
  have hl := lv_entry ([.ref ob, .int x1, .long x2, .ref out]) (n := 6) (Nat.le_of_ble_eq_true rfl)
  rw [lg_entry_eq]
  generalize (lg_sl ([.ref ob, .int x1, .long x2, .ref out]) ++ List.replicate (6 - (lg_sl ([.ref ob, .int x1, .long x2, .ref out])).length) Slot.unset).toArray = ls at hl ⊢
  have hl : lv_has ls 6 [(0, .ref ob), (1, .int x1), (2, .long x2), (4, .ref out)] := hl
  refine lv_aload hx hb dL_put_0 (lv_at hl 3 rfl) ?_
  refine lv_iconst (v := 0) hx hb dL_put_2 (by decide) ?_
  refine lv_aload_n hx hb dL_put_3 rfl (lv_at hl 0 rfl) ?_
  refine lv_iload_n hx hb dL_put_4 rfl (lv_at hl 1 rfl) ?_
  refine lv_lload_n hx hb dL_put_5 rfl (lv_at hl 2 rfl) ?_
  refine hc_V (b := ob) (As := [.int x1, .long x2]) (rest := [.int (0 : Int32), .ref out]) ⟨hx, hb, hml, hown, hts⟩ (c_X2_put l hfl D tys ad L g ob arr nd made mvs twi tna fa i nlo nhi nv nst nhs nls ngs x1 x2 hi hL_ob hL_arr hL_nd hg_ob hg_arr hg_nd ne_ob_nd ne_arr_ob ne_arr_nd ne_nd_ob htN hia hfa) (cwV 2 hts gL_put_X2_put rfl rfl rfl hd_X2_put ⟨Nat.le_of_ble_eq_true rfl, Nat.le_of_ble_eq_true rfl⟩) (pg_recv hK hP hL_ob hg_ob rfl) (fun U hU hvm => WM hP hK hD hKC0 hTC hS hU hvm) hXN hS (fun _ h => h) rfl hl.1 rfl (lv_room (Nat.le_of_ble_eq_true rfl)) dL_put_6 ⟨Nat.le_of_ble_eq_true rfl, Nat.le_of_ble_eq_true rfl⟩ (fun E ce q9 H locs hxe hP hD hS hce hcv hcl => ?_) (fun hc0 => ?_)
  · rcases hxe with ⟨hc, rfl⟩ | ⟨hc, rfl⟩ | ⟨hc, rfl⟩
    · refine vx_catch (own := RL) (name := "java/util/NoSuchElementException") (E := nsN) hown [] ⟨0, 10, 13, 21⟩ [⟨0, 10, 17, 13⟩] (hT.trans rfl) (fun _ h => nomatch h) (by decide) (by decide) (hts (.classLink RL 21 "java/util/NoSuchElementException") (by decide +kernel)) (nw_use (w := .castable "java/util/NoSuchElementException" "java/util/NoSuchElementException") rfl (hXN.2 _ (by decide +kernel))) hce hcv hcl ?_
      refine lv_astore (lv' := [(5, .ref q9), (0, .ref ob), (1, .int x1), (2, .long x2), (4, .ref out)]) hx hb dL_put_13 hl (by decide) rfl (fun ls hl => ?_)
      refine lv_iconst (v := 1) hx hb dL_put_15 (by decide) ?_
      exact W.widen (k := 2) (n := 12) (Nat.le_of_ble_eq_true rfl) (Nat.le_of_ble_eq_true rfl) (W.iret hx hb hr (fun t ht hW => ⟨by rw [hc]; rfl, ⟨g, WM hP hK hD hKC0 hTC hS ht hW.alike, ⟨fun z => absurd z (by rw [hc]; decide), fun _ _ => rfl⟩⟩, hS.F ht⟩) (fun q h => hS.2.2 q h) dL_put_16)
    · refine vx_catch (own := RL) (name := "java/lang/IllegalArgumentException") (E := ieN) hown [⟨0, 10, 13, 21⟩] ⟨0, 10, 17, 13⟩ [] (hT.trans rfl) (fun z hz => by simp only [List.mem_cons, List.not_mem_nil, or_false] at hz; rcases hz with rfl; exact Or.inr ⟨by decide, "java/util/NoSuchElementException", hts (.classLink RL 21 "java/util/NoSuchElementException") (by decide +kernel), hXN.1.2 ("java/lang/IllegalArgumentException", "java/util/NoSuchElementException") (by decide +kernel)⟩) (by decide) (by decide) (hts (.classLink RL 13 "java/lang/IllegalArgumentException") (by decide +kernel)) (nw_use (w := .castable "java/lang/IllegalArgumentException" "java/lang/IllegalArgumentException") rfl (hXN.2 _ (by decide +kernel))) hce hcv hcl ?_
      refine lv_astore (lv' := [(5, .ref q9), (0, .ref ob), (1, .int x1), (2, .long x2), (4, .ref out)]) hx hb dL_put_17 hl (by decide) rfl (fun ls hl => ?_)
      refine lv_iconst (v := 2) hx hb dL_put_19 (by decide) ?_
      exact W.widen (k := 2) (n := 12) (Nat.le_of_ble_eq_true rfl) (Nat.le_of_ble_eq_true rfl) (W.iret hx hb hr (fun t ht hW => ⟨by rw [hc]; rfl, ⟨g, WM hP hK hD hKC0 hTC hS ht hW.alike, ⟨fun z => absurd z (by rw [hc]; decide), fun _ _ => rfl⟩⟩, hS.F ht⟩) (fun q h => hS.2.2 q h) dL_put_20)
    · exact absurd hc (nc3_X2_put _ _ _ _ _ _ _ _ _ _ _ _ _ _ _)
  · intro g1 H locs hp9 hP hD hS
    refine W.eq (g2 := F0 m 9 ls [.long ((fX2_put made mvs twi tna fa i nlo nhi nv nst nhs nls ngs x1 x2).2.1), .int (0 : Int32), .ref out]) rfl ?_
    obtain ⟨hn9_nd, hn9_ob, hr9⟩ := hp9
    have hg_nd : g1 nd = .inr (1, [.ref (ad i), .long nlo, .long nhi, .long ((fX2_put made mvs twi tna fa i nlo nhi nv nst nhs nls ngs x1 x2).2.2.1), .long nst, .long ((fX2_put made mvs twi tna fa i nlo nhi nv nst nhs nls ngs x1 x2).2.2.2.1), .long ((fX2_put made mvs twi tna fa i nlo nhi nv nst nhs nls ngs x1 x2).2.2.2.2.1), .long ((fX2_put made mvs twi tna fa i nlo nhi nv nst nhs nls ngs x1 x2).2.2.2.2.2.1)]) := hn9_nd
    have hg_ob : g1 ob = .inr (2, [.ref arr, .int made, .int ((fX2_put made mvs twi tna fa i nlo nhi nv nst nhs nls ngs x1 x2).2.2.2.2.2.2), .long twi, .int tna]) := hn9_ob
    have hg_out : g1 out = .inl (cyJ, 1, .inr (.inl fo)) := (hr9 out ne_out_nd ne_out_ob).trans hg_out
    refine pg_last hx hb hK hP hD hS 0 hL_out hg_out htJ (by unfold vp_in; decide) dL_put_9 (fun H locs hP hD hS => ?_)
    obtain ⟨g2, eg2⟩ : ∃ z : Nat → va_E, z = va_up g1 out (.inl (cyJ, 1, .inr (.inl (vp_updL fo (0 : Int32).toNatClampNeg ((fX2_put made mvs twi tna fa i nlo nhi nv nst nhs nls ngs x1 x2).2.1))))) := ⟨_, rfl⟩
    have hP : va_P D vwCl (va_pl L g2) H := by rw [eg2]; exact hP
    have hD : va_D (fun q => q ∈ L) (va_pl L g2) := by rw [eg2]; exact hD
    have hg_out : g2 out = .inl (cyJ, 1, .inr (.inl (vp_updL fo (0 : Int32).toNatClampNeg ((fX2_put made mvs twi tna fa i nlo nhi nv nst nhs nls ngs x1 x2).2.1)))) := by rw [eg2]; exact va_up_self _ _ _
    have hg_nd : g2 nd = .inr (1, [.ref (ad i), .long nlo, .long nhi, .long ((fX2_put made mvs twi tna fa i nlo nhi nv nst nhs nls ngs x1 x2).2.2.1), .long nst, .long ((fX2_put made mvs twi tna fa i nlo nhi nv nst nhs nls ngs x1 x2).2.2.2.1), .long ((fX2_put made mvs twi tna fa i nlo nhi nv nst nhs nls ngs x1 x2).2.2.2.2.1), .long ((fX2_put made mvs twi tna fa i nlo nhi nv nst nhs nls ngs x1 x2).2.2.2.2.2.1)]) := (congrFun eg2 nd).trans ((va_up_ne _ _ ne_nd_out).trans hg_nd)
    have hg_ob : g2 ob = .inr (2, [.ref arr, .int made, .int ((fX2_put made mvs twi tna fa i nlo nhi nv nst nhs nls ngs x1 x2).2.2.2.2.2.2), .long twi, .int tna]) := (congrFun eg2 ob).trans ((va_up_ne _ _ ne_ob_out).trans hg_ob)
    have hr8 : ∀ q : Nat, q ≠ nd → q ≠ ob → q ≠ out → g2 q = g q := fun q h_nd h_ob h_out => (congrFun eg2 q).trans ((va_up_ne _ _ h_out).trans (hr9 q h_nd h_ob))
    refine lv_goto (tgt := 21) hx hb dL_put_10 (by decide) ?_
    refine lv_iconst (v := 0) hx hb dL_put_21 (by decide) ?_
    exact W.widen (k := 2) (n := 12) (Nat.le_of_ble_eq_true rfl) (Nat.le_of_ble_eq_true rfl) (W.iret hx hb hr (fun t ht hW => ⟨by rw [hc0]; rfl, ⟨g2, WM hP hK hD hKC0 hTC hS ht hW.alike, ⟨fun _ => ⟨hg_nd, hg_ob, hg_out, hr8⟩, fun z => absurd hc0 z⟩⟩, hS.F ht⟩) (fun q h => hS.2.2 q h) dL_put_22)
theorem hd_L_turn : yL_turn.cls ≠ "java/lang/invoke/MethodHandle" ∧ yL_turn.cls ≠ "java/lang/invoke/VarHandle" ∧ (parseMethodDescriptor yL_turn.desc).map (fun d => d.parameters.length) = some 4 := by decide +kernel
set_option maxHeartbeats 1000000 in
set_option maxRecDepth 100000 in
theorem c_L_turn_no (l : Launch) (hfl : l.stackTraces = false) {cyJ : ClassId} {cyN : ClassId} (D : va_G) (tys : List (ClassId × FieldType)) (ad : Nat → Nat) (L : List Nat) (g : Nat → va_E) (ob arr out : Nat) (made : Int32) (mvs : Int32) (twi : Int64) (tna : Int32) (fa : Nat → Option Nat) (x1 : Int32) (x2 : Int64) (fo : Nat → Int64) (hL_ob : ob ∈ L) (hL_arr : arr ∈ L) (hg_ob : g ob = .inr (2, [.ref arr, .int made, .int mvs, .long twi, .int tna])) (hg_arr : g arr = .inl (cyN, 8, .inr (.inr (.inr (.inr fa))))) (htN : tys[2]? = some (cyN, .object RX1)) (hab : ¬ vp_in x1 8 ∨ fa x1.toNatClampNeg = none) (hL_out : out ∈ L) (hg_out : g out = .inl (cyJ, 1, .inr (.inl fo))) (htJ : tys[0]? = some (cyJ, .long)) : Met l yL_turn wsL_turn ({ frames := 8, cells := 1, slots := 6, locals := 130 }) (PW D tys ad L g [.ref ob, .int x1, .long x2, .ref out]) (QE D tys ad L (some (.int (nI (1)))) (fun g1 => ∀ q : Nat, g1 q = g q)) 1 6 (fun q => q ∈ L) := by
  refine va_MetW (cc := cL_turn) (maxL := 6) (ret := some .int) (hh := [(0, 10, 13, 21), (0, 10, 17, 13), (0, 10, 21, 15)]) (by decide) rfl ?_
  intro p e s m args below meth c s₁ B hml hv
  obtain ⟨rfl, ⟨hP, hK, hD0, hKC0, hTC⟩, hXN⟩ := hv
  have hD : va_D (fun q => q ∈ L) (va_pl L g) := we_D (fun _ h => h) hD0
  have hKC : KC ad (fun q => q ∈ L) s s.heap := hKC0.narrow (fun _ h => Or.inl h)
  have hS : va_S (fun q => q ∈ L) s.heap s.heap [] := va_S.rf
  have hx := B.exec
  have hb := B.bytes
  have hr := B.returns
  have hts := atoms_spec (ws := wsL_turn) B.pre
  have hown : s.vm.findClass RL = some m.cls := findClass_of_methodNamed B.named
  have hlocks := B.notSynchronized
  have hT := vx_table (x := yL_turn) B (hts _ List.mem_cons_self)
  have hl := lv_entry ([.ref ob, .int x1, .long x2, .ref out]) (n := 6) (Nat.le_of_ble_eq_true rfl)
  rw [lg_entry_eq]
  generalize (lg_sl ([.ref ob, .int x1, .long x2, .ref out]) ++ List.replicate (6 - (lg_sl ([.ref ob, .int x1, .long x2, .ref out])).length) Slot.unset).toArray = ls at hl ⊢
  have hl : lv_has ls 6 [(0, .ref ob), (1, .int x1), (2, .long x2), (4, .ref out)] := hl
  refine lv_aload hx hb dL_turn_0 (lv_at hl 3 rfl) ?_
  refine lv_iconst (v := 0) hx hb dL_turn_2 (by decide) ?_
  refine lv_aload_n hx hb dL_turn_3 rfl (lv_at hl 0 rfl) ?_
  refine lv_iload_n hx hb dL_turn_4 rfl (lv_at hl 1 rfl) ?_
  refine lv_lload_n hx hb dL_turn_5 rfl (lv_at hl 2 rfl) ?_
  refine hr_V (b := ob) (As := [.int x1, .long x2]) (rest := [.int (0 : Int32), .ref out]) ⟨hx, hb, hml, hown, hts⟩ (c_X2_turn_no l hfl D tys ad L g ob arr made mvs twi tna fa x1 x2 hL_ob hL_arr hg_ob hg_arr htN hab) (cwV 2 hts gL_turn_X2_turn rfl rfl rfl hd_X2_turn ⟨Nat.le_of_ble_eq_true rfl, Nat.le_of_ble_eq_true rfl⟩) (pg_recv hK hP hL_ob hg_ob rfl) (fun U hU hvm => WM hP hK hD hKC0 hTC hS hU hvm) hXN hS (fun _ h => h) rfl hl.1 rfl (lv_room (Nat.le_of_ble_eq_true rfl)) dL_turn_6 ⟨Nat.le_of_ble_eq_true rfl, Nat.le_of_ble_eq_true rfl⟩ (fun E ce q9 H locs hxe hP hD hS hce hcv hcl => ?_) (fun hc0 => ?_)
  · rcases hxe with ⟨hc, rfl⟩ | ⟨hc, rfl⟩ | ⟨hc, rfl⟩
    · refine vx_catch (own := RL) (name := "java/util/NoSuchElementException") (E := nsN) hown [] ⟨0, 10, 13, 21⟩ [⟨0, 10, 17, 13⟩, ⟨0, 10, 21, 15⟩] (hT.trans rfl) (fun _ h => nomatch h) (by decide) (by decide) (hts (.classLink RL 21 "java/util/NoSuchElementException") (by decide +kernel)) (nw_use (w := .castable "java/util/NoSuchElementException" "java/util/NoSuchElementException") rfl (hXN.2 _ (by decide +kernel))) hce hcv hcl ?_
      refine lv_astore (lv' := [(5, .ref q9), (0, .ref ob), (1, .int x1), (2, .long x2), (4, .ref out)]) hx hb dL_turn_13 hl (by decide) rfl (fun ls hl => ?_)
      refine lv_iconst (v := 1) hx hb dL_turn_15 (by decide) ?_
      exact W.widen (k := 1) (n := 6) (Nat.le_of_ble_eq_true rfl) (Nat.le_of_ble_eq_true rfl) (W.iret hx hb hr (fun t ht hW => ⟨rfl, ⟨g, WM hP hK hD hKC0 hTC hS ht hW.alike, fun _ => rfl⟩, hS.F ht⟩) (fun q h => hS.2.2 q h) dL_turn_16)
    · exact absurd hc (by decide)
    · exact absurd hc (by decide)
  · exact absurd hc0 (by decide)
set_option maxHeartbeats 1000000 in
set_option maxRecDepth 100000 in
theorem c_L_turn (l : Launch) (hfl : l.stackTraces = false) {cyJ : ClassId} {cyN : ClassId} (D : va_G) (tys : List (ClassId × FieldType)) (ad : Nat → Nat) (L : List Nat) (g : Nat → va_E) (ob arr nd out : Nat) (made : Int32) (mvs : Int32) (twi : Int64) (tna : Int32) (fa : Nat → Option Nat) (i : Nat) (nlo : Int64) (nhi : Int64) (nv : Int64) (nst : Int64) (nhs : Int64) (nls : Int64) (ngs : Int64) (x1 : Int32) (x2 : Int64) (fo : Nat → Int64) (hi : i < 2) (hL_ob : ob ∈ L) (hL_arr : arr ∈ L) (hL_nd : nd ∈ L) (hg_ob : g ob = .inr (2, [.ref arr, .int made, .int mvs, .long twi, .int tna])) (hg_arr : g arr = .inl (cyN, 8, .inr (.inr (.inr (.inr fa))))) (hg_nd : g nd = .inr (1, [.ref (ad i), .long nlo, .long nhi, .long nv, .long nst, .long nhs, .long nls, .long ngs])) (ne_ob_nd : ob ≠ nd) (ne_arr_ob : arr ≠ ob) (ne_arr_nd : arr ≠ nd) (ne_nd_ob : nd ≠ ob) (htN : tys[2]? = some (cyN, .object RX1)) (hia : vp_in x1 8) (hfa : fa x1.toNatClampNeg = some nd) (hL_out : out ∈ L) (hg_out : g out = .inl (cyJ, 1, .inr (.inl fo))) (htJ : tys[0]? = some (cyJ, .long)) (ne_out_nd : out ≠ nd) (ne_nd_out : nd ≠ out) (ne_out_ob : out ≠ ob) (ne_ob_out : ob ≠ out) : Met l yL_turn wsL_turn ({ frames := 8, cells := 3, slots := 18, locals := 163 }) (PW D tys ad L g [.ref ob, .int x1, .long x2, .ref out]) (QE D tys ad L (some (.int (nI (((fX2_turn made mvs twi tna fa i nlo nhi nv nst nhs nls ngs x1 x2).1))))) (fun g1 => (((fX2_turn made mvs twi tna fa i nlo nhi nv nst nhs nls ngs x1 x2).1) = 0 → g1 nd = .inr (1, [.ref (ad i), .long nlo, .long nhi, .long ((fX2_turn made mvs twi tna fa i nlo nhi nv nst nhs nls ngs x1 x2).2.2.1), .long nst, .long ((fX2_turn made mvs twi tna fa i nlo nhi nv nst nhs nls ngs x1 x2).2.2.2.1), .long ((fX2_turn made mvs twi tna fa i nlo nhi nv nst nhs nls ngs x1 x2).2.2.2.2.1), .long ((fX2_turn made mvs twi tna fa i nlo nhi nv nst nhs nls ngs x1 x2).2.2.2.2.2.1)]) ∧ g1 ob = .inr (2, [.ref arr, .int made, .int ((fX2_turn made mvs twi tna fa i nlo nhi nv nst nhs nls ngs x1 x2).2.2.2.2.2.2), .long twi, .int tna]) ∧ g1 out = .inl (cyJ, 1, .inr (.inl (vp_updL fo (0 : Int32).toNatClampNeg ((fX2_turn made mvs twi tna fa i nlo nhi nv nst nhs nls ngs x1 x2).2.1)))) ∧ ∀ q : Nat, q ≠ nd → q ≠ ob → q ≠ out → g1 q = g q) ∧ (¬ ((fX2_turn made mvs twi tna fa i nlo nhi nv nst nhs nls ngs x1 x2).1) = 0 → ∀ q : Nat, g1 q = g q))) 3 18 (fun q => q ∈ L) := by
  refine va_MetW (cc := cL_turn) (maxL := 6) (ret := some .int) (hh := [(0, 10, 13, 21), (0, 10, 17, 13), (0, 10, 21, 15)]) (by decide) rfl ?_
  intro p e s m args below meth c s₁ B hml hv
  obtain ⟨rfl, ⟨hP, hK, hD0, hKC0, hTC⟩, hXN⟩ := hv
  have hD : va_D (fun q => q ∈ L) (va_pl L g) := we_D (fun _ h => h) hD0
  have hKC : KC ad (fun q => q ∈ L) s s.heap := hKC0.narrow (fun _ h => Or.inl h)
  have hS : va_S (fun q => q ∈ L) s.heap s.heap [] := va_S.rf
  have hx := B.exec
  have hb := B.bytes
  have hr := B.returns
  have hts := atoms_spec (ws := wsL_turn) B.pre
  have hown : s.vm.findClass RL = some m.cls := findClass_of_methodNamed B.named
  have hlocks := B.notSynchronized
  have hT := vx_table (x := yL_turn) B (hts _ List.mem_cons_self)
  have hl := lv_entry ([.ref ob, .int x1, .long x2, .ref out]) (n := 6) (Nat.le_of_ble_eq_true rfl)
  rw [lg_entry_eq]
  generalize (lg_sl ([.ref ob, .int x1, .long x2, .ref out]) ++ List.replicate (6 - (lg_sl ([.ref ob, .int x1, .long x2, .ref out])).length) Slot.unset).toArray = ls at hl ⊢
  have hl : lv_has ls 6 [(0, .ref ob), (1, .int x1), (2, .long x2), (4, .ref out)] := hl
  refine lv_aload hx hb dL_turn_0 (lv_at hl 3 rfl) ?_
  refine lv_iconst (v := 0) hx hb dL_turn_2 (by decide) ?_
  refine lv_aload_n hx hb dL_turn_3 rfl (lv_at hl 0 rfl) ?_
  refine lv_iload_n hx hb dL_turn_4 rfl (lv_at hl 1 rfl) ?_
  refine lv_lload_n hx hb dL_turn_5 rfl (lv_at hl 2 rfl) ?_
  refine hc_V (b := ob) (As := [.int x1, .long x2]) (rest := [.int (0 : Int32), .ref out]) ⟨hx, hb, hml, hown, hts⟩ (c_X2_turn l hfl D tys ad L g ob arr nd made mvs twi tna fa i nlo nhi nv nst nhs nls ngs x1 x2 hi hL_ob hL_arr hL_nd hg_ob hg_arr hg_nd ne_ob_nd ne_arr_ob ne_arr_nd ne_nd_ob htN hia hfa) (cwV 2 hts gL_turn_X2_turn rfl rfl rfl hd_X2_turn ⟨Nat.le_of_ble_eq_true rfl, Nat.le_of_ble_eq_true rfl⟩) (pg_recv hK hP hL_ob hg_ob rfl) (fun U hU hvm => WM hP hK hD hKC0 hTC hS hU hvm) hXN hS (fun _ h => h) rfl hl.1 rfl (lv_room (Nat.le_of_ble_eq_true rfl)) dL_turn_6 ⟨Nat.le_of_ble_eq_true rfl, Nat.le_of_ble_eq_true rfl⟩ (fun E ce q9 H locs hxe hP hD hS hce hcv hcl => ?_) (fun hc0 => ?_)
  · rcases hxe with ⟨hc, rfl⟩ | ⟨hc, rfl⟩ | ⟨hc, rfl⟩
    · refine vx_catch (own := RL) (name := "java/util/NoSuchElementException") (E := nsN) hown [] ⟨0, 10, 13, 21⟩ [⟨0, 10, 17, 13⟩, ⟨0, 10, 21, 15⟩] (hT.trans rfl) (fun _ h => nomatch h) (by decide) (by decide) (hts (.classLink RL 21 "java/util/NoSuchElementException") (by decide +kernel)) (nw_use (w := .castable "java/util/NoSuchElementException" "java/util/NoSuchElementException") rfl (hXN.2 _ (by decide +kernel))) hce hcv hcl ?_
      refine lv_astore (lv' := [(5, .ref q9), (0, .ref ob), (1, .int x1), (2, .long x2), (4, .ref out)]) hx hb dL_turn_13 hl (by decide) rfl (fun ls hl => ?_)
      refine lv_iconst (v := 1) hx hb dL_turn_15 (by decide) ?_
      exact W.widen (k := 3) (n := 18) (Nat.le_of_ble_eq_true rfl) (Nat.le_of_ble_eq_true rfl) (W.iret hx hb hr (fun t ht hW => ⟨by rw [hc]; rfl, ⟨g, WM hP hK hD hKC0 hTC hS ht hW.alike, ⟨fun z => absurd z (by rw [hc]; decide), fun _ _ => rfl⟩⟩, hS.F ht⟩) (fun q h => hS.2.2 q h) dL_turn_16)
    · refine vx_catch (own := RL) (name := "java/lang/IllegalArgumentException") (E := ieN) hown [⟨0, 10, 13, 21⟩] ⟨0, 10, 17, 13⟩ [⟨0, 10, 21, 15⟩] (hT.trans rfl) (fun z hz => by simp only [List.mem_cons, List.not_mem_nil, or_false] at hz; rcases hz with rfl; exact Or.inr ⟨by decide, "java/util/NoSuchElementException", hts (.classLink RL 21 "java/util/NoSuchElementException") (by decide +kernel), hXN.1.2 ("java/lang/IllegalArgumentException", "java/util/NoSuchElementException") (by decide +kernel)⟩) (by decide) (by decide) (hts (.classLink RL 13 "java/lang/IllegalArgumentException") (by decide +kernel)) (nw_use (w := .castable "java/lang/IllegalArgumentException" "java/lang/IllegalArgumentException") rfl (hXN.2 _ (by decide +kernel))) hce hcv hcl ?_
      refine lv_astore (lv' := [(5, .ref q9), (0, .ref ob), (1, .int x1), (2, .long x2), (4, .ref out)]) hx hb dL_turn_17 hl (by decide) rfl (fun ls hl => ?_)
      refine lv_iconst (v := 2) hx hb dL_turn_19 (by decide) ?_
      exact W.widen (k := 3) (n := 18) (Nat.le_of_ble_eq_true rfl) (Nat.le_of_ble_eq_true rfl) (W.iret hx hb hr (fun t ht hW => ⟨by rw [hc]; rfl, ⟨g, WM hP hK hD hKC0 hTC hS ht hW.alike, ⟨fun z => absurd z (by rw [hc]; decide), fun _ _ => rfl⟩⟩, hS.F ht⟩) (fun q h => hS.2.2 q h) dL_turn_20)
    · refine vx_catch (own := RL) (name := "java/lang/IllegalStateException") (E := isN) hown [⟨0, 10, 13, 21⟩, ⟨0, 10, 17, 13⟩] ⟨0, 10, 21, 15⟩ [] (hT.trans rfl) (fun z hz => by
          simp only [List.mem_cons, List.not_mem_nil, or_false] at hz
          rcases hz with rfl | rfl
          · exact Or.inr ⟨by decide, "java/util/NoSuchElementException", hts (.classLink RL 21 "java/util/NoSuchElementException") (by decide +kernel), hXN.1.2 ("java/lang/IllegalStateException", "java/util/NoSuchElementException") (by decide +kernel)⟩
          · exact Or.inr ⟨by decide, "java/lang/IllegalArgumentException", hts (.classLink RL 13 "java/lang/IllegalArgumentException") (by decide +kernel), hXN.1.2 ("java/lang/IllegalStateException", "java/lang/IllegalArgumentException") (by decide +kernel)⟩
        ) (by decide) (by decide) (hts (.classLink RL 15 "java/lang/IllegalStateException") (by decide +kernel)) (nw_use (w := .castable "java/lang/IllegalStateException" "java/lang/IllegalStateException") rfl (hXN.2 _ (by decide +kernel))) hce hcv hcl ?_
      refine lv_astore (lv' := [(5, .ref q9), (0, .ref ob), (1, .int x1), (2, .long x2), (4, .ref out)]) hx hb dL_turn_21 hl (by decide) rfl (fun ls hl => ?_)
      refine lv_iconst (v := 3) hx hb dL_turn_23 (by decide) ?_
      exact W.widen (k := 3) (n := 18) (Nat.le_of_ble_eq_true rfl) (Nat.le_of_ble_eq_true rfl) (W.iret hx hb hr (fun t ht hW => ⟨by rw [hc]; rfl, ⟨g, WM hP hK hD hKC0 hTC hS ht hW.alike, ⟨fun z => absurd z (by rw [hc]; decide), fun _ _ => rfl⟩⟩, hS.F ht⟩) (fun q h => hS.2.2 q h) dL_turn_24)
  · intro g1 H locs hp9 hP hD hS
    refine W.eq (g2 := F0 m 9 ls [.long ((fX2_turn made mvs twi tna fa i nlo nhi nv nst nhs nls ngs x1 x2).2.1), .int (0 : Int32), .ref out]) rfl ?_
    obtain ⟨hn9_nd, hn9_ob, hr9⟩ := hp9
    have hg_nd : g1 nd = .inr (1, [.ref (ad i), .long nlo, .long nhi, .long ((fX2_turn made mvs twi tna fa i nlo nhi nv nst nhs nls ngs x1 x2).2.2.1), .long nst, .long ((fX2_turn made mvs twi tna fa i nlo nhi nv nst nhs nls ngs x1 x2).2.2.2.1), .long ((fX2_turn made mvs twi tna fa i nlo nhi nv nst nhs nls ngs x1 x2).2.2.2.2.1), .long ((fX2_turn made mvs twi tna fa i nlo nhi nv nst nhs nls ngs x1 x2).2.2.2.2.2.1)]) := hn9_nd
    have hg_ob : g1 ob = .inr (2, [.ref arr, .int made, .int ((fX2_turn made mvs twi tna fa i nlo nhi nv nst nhs nls ngs x1 x2).2.2.2.2.2.2), .long twi, .int tna]) := hn9_ob
    have hg_out : g1 out = .inl (cyJ, 1, .inr (.inl fo)) := (hr9 out ne_out_nd ne_out_ob).trans hg_out
    refine pg_last hx hb hK hP hD hS 0 hL_out hg_out htJ (by unfold vp_in; decide) dL_turn_9 (fun H locs hP hD hS => ?_)
    obtain ⟨g2, eg2⟩ : ∃ z : Nat → va_E, z = va_up g1 out (.inl (cyJ, 1, .inr (.inl (vp_updL fo (0 : Int32).toNatClampNeg ((fX2_turn made mvs twi tna fa i nlo nhi nv nst nhs nls ngs x1 x2).2.1))))) := ⟨_, rfl⟩
    have hP : va_P D vwCl (va_pl L g2) H := by rw [eg2]; exact hP
    have hD : va_D (fun q => q ∈ L) (va_pl L g2) := by rw [eg2]; exact hD
    have hg_out : g2 out = .inl (cyJ, 1, .inr (.inl (vp_updL fo (0 : Int32).toNatClampNeg ((fX2_turn made mvs twi tna fa i nlo nhi nv nst nhs nls ngs x1 x2).2.1)))) := by rw [eg2]; exact va_up_self _ _ _
    have hg_nd : g2 nd = .inr (1, [.ref (ad i), .long nlo, .long nhi, .long ((fX2_turn made mvs twi tna fa i nlo nhi nv nst nhs nls ngs x1 x2).2.2.1), .long nst, .long ((fX2_turn made mvs twi tna fa i nlo nhi nv nst nhs nls ngs x1 x2).2.2.2.1), .long ((fX2_turn made mvs twi tna fa i nlo nhi nv nst nhs nls ngs x1 x2).2.2.2.2.1), .long ((fX2_turn made mvs twi tna fa i nlo nhi nv nst nhs nls ngs x1 x2).2.2.2.2.2.1)]) := (congrFun eg2 nd).trans ((va_up_ne _ _ ne_nd_out).trans hg_nd)
    have hg_ob : g2 ob = .inr (2, [.ref arr, .int made, .int ((fX2_turn made mvs twi tna fa i nlo nhi nv nst nhs nls ngs x1 x2).2.2.2.2.2.2), .long twi, .int tna]) := (congrFun eg2 ob).trans ((va_up_ne _ _ ne_ob_out).trans hg_ob)
    have hr8 : ∀ q : Nat, q ≠ nd → q ≠ ob → q ≠ out → g2 q = g q := fun q h_nd h_ob h_out => (congrFun eg2 q).trans ((va_up_ne _ _ h_out).trans (hr9 q h_nd h_ob))
    refine lv_goto (tgt := 25) hx hb dL_turn_10 (by decide) ?_
    refine lv_iconst (v := 0) hx hb dL_turn_25 (by decide) ?_
    exact W.widen (k := 3) (n := 18) (Nat.le_of_ble_eq_true rfl) (Nat.le_of_ble_eq_true rfl) (W.iret hx hb hr (fun t ht hW => ⟨by rw [hc0]; rfl, ⟨g2, WM hP hK hD hKC0 hTC hS ht hW.alike, ⟨fun _ => ⟨hg_nd, hg_ob, hg_out, hr8⟩, fun z => absurd hc0 z⟩⟩, hS.F ht⟩) (fun q h => hS.2.2 q h) dL_turn_26)
theorem hd_L_damp : yL_damp.cls ≠ "java/lang/invoke/MethodHandle" ∧ yL_damp.cls ≠ "java/lang/invoke/VarHandle" ∧ (parseMethodDescriptor yL_damp.desc).map (fun d => d.parameters.length) = some 4 := by decide +kernel
set_option maxHeartbeats 1000000 in
set_option maxRecDepth 100000 in
theorem c_L_damp_no (l : Launch) (hfl : l.stackTraces = false) {cyJ : ClassId} {cyN : ClassId} (D : va_G) (tys : List (ClassId × FieldType)) (ad : Nat → Nat) (L : List Nat) (g : Nat → va_E) (ob arr out : Nat) (made : Int32) (mvs : Int32) (twi : Int64) (tna : Int32) (fa : Nat → Option Nat) (x1 : Int32) (x2 : Int64) (fo : Nat → Int64) (hL_ob : ob ∈ L) (hL_arr : arr ∈ L) (hg_ob : g ob = .inr (2, [.ref arr, .int made, .int mvs, .long twi, .int tna])) (hg_arr : g arr = .inl (cyN, 8, .inr (.inr (.inr (.inr fa))))) (htN : tys[2]? = some (cyN, .object RX1)) (hab : ¬ vp_in x1 8 ∨ fa x1.toNatClampNeg = none) (hL_out : out ∈ L) (hg_out : g out = .inl (cyJ, 1, .inr (.inl fo))) (htJ : tys[0]? = some (cyJ, .long)) : Met l yL_damp wsL_damp ({ frames := 8, cells := 1, slots := 6, locals := 128 }) (PW D tys ad L g [.ref ob, .int x1, .long x2, .ref out]) (QE D tys ad L (some (.int (nI (1)))) (fun g1 => ∀ q : Nat, g1 q = g q)) 1 6 (fun q => q ∈ L) := by
  refine va_MetW (cc := cL_damp) (maxL := 6) (ret := some .int) (hh := [(0, 10, 13, 21), (0, 10, 17, 13)]) (by decide) rfl ?_
  intro p e s m args below meth c s₁ B hml hv
  obtain ⟨rfl, ⟨hP, hK, hD0, hKC0, hTC⟩, hXN⟩ := hv
  have hD : va_D (fun q => q ∈ L) (va_pl L g) := we_D (fun _ h => h) hD0
  have hKC : KC ad (fun q => q ∈ L) s s.heap := hKC0.narrow (fun _ h => Or.inl h)
  have hS : va_S (fun q => q ∈ L) s.heap s.heap [] := va_S.rf
  have hx := B.exec
  have hb := B.bytes
  have hr := B.returns
  have hts := atoms_spec (ws := wsL_damp) B.pre
  have hown : s.vm.findClass RL = some m.cls := findClass_of_methodNamed B.named
  have hlocks := B.notSynchronized
  have hT := vx_table (x := yL_damp) B (hts _ List.mem_cons_self)
  have hl := lv_entry ([.ref ob, .int x1, .long x2, .ref out]) (n := 6) (Nat.le_of_ble_eq_true rfl)
  rw [lg_entry_eq]
  generalize (lg_sl ([.ref ob, .int x1, .long x2, .ref out]) ++ List.replicate (6 - (lg_sl ([.ref ob, .int x1, .long x2, .ref out])).length) Slot.unset).toArray = ls at hl ⊢
  have hl : lv_has ls 6 [(0, .ref ob), (1, .int x1), (2, .long x2), (4, .ref out)] := hl
  refine lv_aload hx hb dL_damp_0 (lv_at hl 3 rfl) ?_
  refine lv_iconst (v := 0) hx hb dL_damp_2 (by decide) ?_
  refine lv_aload_n hx hb dL_damp_3 rfl (lv_at hl 0 rfl) ?_
  refine lv_iload_n hx hb dL_damp_4 rfl (lv_at hl 1 rfl) ?_
  refine lv_lload_n hx hb dL_damp_5 rfl (lv_at hl 2 rfl) ?_
  refine hr_V (b := ob) (As := [.int x1, .long x2]) (rest := [.int (0 : Int32), .ref out]) ⟨hx, hb, hml, hown, hts⟩ (c_X2_damp_no l hfl D tys ad L g ob arr made mvs twi tna fa x1 x2 hL_ob hL_arr hg_ob hg_arr htN hab) (cwV 2 hts gL_damp_X2_damp rfl rfl rfl hd_X2_damp ⟨Nat.le_of_ble_eq_true rfl, Nat.le_of_ble_eq_true rfl⟩) (pg_recv hK hP hL_ob hg_ob rfl) (fun U hU hvm => WM hP hK hD hKC0 hTC hS hU hvm) hXN hS (fun _ h => h) rfl hl.1 rfl (lv_room (Nat.le_of_ble_eq_true rfl)) dL_damp_6 ⟨Nat.le_of_ble_eq_true rfl, Nat.le_of_ble_eq_true rfl⟩ (fun E ce q9 H locs hxe hP hD hS hce hcv hcl => ?_) (fun hc0 => ?_)
  · rcases hxe with ⟨hc, rfl⟩ | ⟨hc, rfl⟩ | ⟨hc, rfl⟩
    · refine vx_catch (own := RL) (name := "java/util/NoSuchElementException") (E := nsN) hown [] ⟨0, 10, 13, 21⟩ [⟨0, 10, 17, 13⟩] (hT.trans rfl) (fun _ h => nomatch h) (by decide) (by decide) (hts (.classLink RL 21 "java/util/NoSuchElementException") (by decide +kernel)) (nw_use (w := .castable "java/util/NoSuchElementException" "java/util/NoSuchElementException") rfl (hXN.2 _ (by decide +kernel))) hce hcv hcl ?_
      refine lv_astore (lv' := [(5, .ref q9), (0, .ref ob), (1, .int x1), (2, .long x2), (4, .ref out)]) hx hb dL_damp_13 hl (by decide) rfl (fun ls hl => ?_)
      refine lv_iconst (v := 1) hx hb dL_damp_15 (by decide) ?_
      exact W.widen (k := 1) (n := 6) (Nat.le_of_ble_eq_true rfl) (Nat.le_of_ble_eq_true rfl) (W.iret hx hb hr (fun t ht hW => ⟨rfl, ⟨g, WM hP hK hD hKC0 hTC hS ht hW.alike, fun _ => rfl⟩, hS.F ht⟩) (fun q h => hS.2.2 q h) dL_damp_16)
    · exact absurd hc (by decide)
    · exact absurd hc (by decide)
  · exact absurd hc0 (by decide)
theorem nc3_X2_damp (made : Int32) (mvs : Int32) (twi : Int64) (tna : Int32) (fa : Nat → Option Nat) (i : Nat) (nlo : Int64) (nhi : Int64) (nv : Int64) (nst : Int64) (nhs : Int64) (nls : Int64) (ngs : Int64) (x1 : Int32) (x2 : Int64) : ¬ (fX2_damp made mvs twi tna fa i nlo nhi nv nst nhs nls ngs x1 x2).1 = 3 := by
  unfold fX2_damp
  try dsimp only
  repeat' split
  all_goals first | (simp; done) | (have h9 := nf_code i x2; simp only []; omega) | omega
set_option maxHeartbeats 1000000 in
set_option maxRecDepth 100000 in
theorem c_L_damp (l : Launch) (hfl : l.stackTraces = false) {cyJ : ClassId} {cyN : ClassId} (D : va_G) (tys : List (ClassId × FieldType)) (ad : Nat → Nat) (L : List Nat) (g : Nat → va_E) (ob arr nd out : Nat) (made : Int32) (mvs : Int32) (twi : Int64) (tna : Int32) (fa : Nat → Option Nat) (i : Nat) (nlo : Int64) (nhi : Int64) (nv : Int64) (nst : Int64) (nhs : Int64) (nls : Int64) (ngs : Int64) (x1 : Int32) (x2 : Int64) (fo : Nat → Int64) (hi : i < 2) (hL_ob : ob ∈ L) (hL_arr : arr ∈ L) (hL_nd : nd ∈ L) (hg_ob : g ob = .inr (2, [.ref arr, .int made, .int mvs, .long twi, .int tna])) (hg_arr : g arr = .inl (cyN, 8, .inr (.inr (.inr (.inr fa))))) (hg_nd : g nd = .inr (1, [.ref (ad i), .long nlo, .long nhi, .long nv, .long nst, .long nhs, .long nls, .long ngs])) (ne_ob_nd : ob ≠ nd) (ne_arr_nd : arr ≠ nd) (htN : tys[2]? = some (cyN, .object RX1)) (hia : vp_in x1 8) (hfa : fa x1.toNatClampNeg = some nd) (hL_out : out ∈ L) (hg_out : g out = .inl (cyJ, 1, .inr (.inl fo))) (htJ : tys[0]? = some (cyJ, .long)) (ne_out_nd : out ≠ nd) (ne_nd_out : nd ≠ out) : Met l yL_damp wsL_damp ({ frames := 8, cells := 2, slots := 12, locals := 130 }) (PW D tys ad L g [.ref ob, .int x1, .long x2, .ref out]) (QE D tys ad L (some (.int (nI (((fX2_damp made mvs twi tna fa i nlo nhi nv nst nhs nls ngs x1 x2).1))))) (fun g1 => (((fX2_damp made mvs twi tna fa i nlo nhi nv nst nhs nls ngs x1 x2).1) = 0 → g1 nd = .inr (1, [.ref (ad i), .long nlo, .long nhi, .long nv, .long ((fX2_damp made mvs twi tna fa i nlo nhi nv nst nhs nls ngs x1 x2).2.2), .long nhs, .long nls, .long ngs]) ∧ g1 out = .inl (cyJ, 1, .inr (.inl (vp_updL fo (0 : Int32).toNatClampNeg ((fX2_damp made mvs twi tna fa i nlo nhi nv nst nhs nls ngs x1 x2).2.1)))) ∧ ∀ q : Nat, q ≠ nd → q ≠ out → g1 q = g q) ∧ (¬ ((fX2_damp made mvs twi tna fa i nlo nhi nv nst nhs nls ngs x1 x2).1) = 0 → ∀ q : Nat, g1 q = g q))) 2 12 (fun q => q ∈ L) := by
  refine va_MetW (cc := cL_damp) (maxL := 6) (ret := some .int) (hh := [(0, 10, 13, 21), (0, 10, 17, 13)]) (by decide) rfl ?_
  intro p e s m args below meth c s₁ B hml hv
  obtain ⟨rfl, ⟨hP, hK, hD0, hKC0, hTC⟩, hXN⟩ := hv
  have hD : va_D (fun q => q ∈ L) (va_pl L g) := we_D (fun _ h => h) hD0
  have hKC : KC ad (fun q => q ∈ L) s s.heap := hKC0.narrow (fun _ h => Or.inl h)
  have hS : va_S (fun q => q ∈ L) s.heap s.heap [] := va_S.rf
  have hx := B.exec
  have hb := B.bytes
  have hr := B.returns
  have hts := atoms_spec (ws := wsL_damp) B.pre
  have hown : s.vm.findClass RL = some m.cls := findClass_of_methodNamed B.named
  have hlocks := B.notSynchronized
  have hT := vx_table (x := yL_damp) B (hts _ List.mem_cons_self)
  have hl := lv_entry ([.ref ob, .int x1, .long x2, .ref out]) (n := 6) (Nat.le_of_ble_eq_true rfl)
  rw [lg_entry_eq]
  generalize (lg_sl ([.ref ob, .int x1, .long x2, .ref out]) ++ List.replicate (6 - (lg_sl ([.ref ob, .int x1, .long x2, .ref out])).length) Slot.unset).toArray = ls at hl ⊢
  have hl : lv_has ls 6 [(0, .ref ob), (1, .int x1), (2, .long x2), (4, .ref out)] := hl
  refine lv_aload hx hb dL_damp_0 (lv_at hl 3 rfl) ?_
  refine lv_iconst (v := 0) hx hb dL_damp_2 (by decide) ?_
  refine lv_aload_n hx hb dL_damp_3 rfl (lv_at hl 0 rfl) ?_
  refine lv_iload_n hx hb dL_damp_4 rfl (lv_at hl 1 rfl) ?_
  refine lv_lload_n hx hb dL_damp_5 rfl (lv_at hl 2 rfl) ?_
  refine hc_V (b := ob) (As := [.int x1, .long x2]) (rest := [.int (0 : Int32), .ref out]) ⟨hx, hb, hml, hown, hts⟩ (c_X2_damp l hfl D tys ad L g ob arr nd made mvs twi tna fa i nlo nhi nv nst nhs nls ngs x1 x2 hi hL_ob hL_arr hL_nd hg_ob hg_arr hg_nd ne_ob_nd ne_arr_nd htN hia hfa) (cwV 2 hts gL_damp_X2_damp rfl rfl rfl hd_X2_damp ⟨Nat.le_of_ble_eq_true rfl, Nat.le_of_ble_eq_true rfl⟩) (pg_recv hK hP hL_ob hg_ob rfl) (fun U hU hvm => WM hP hK hD hKC0 hTC hS hU hvm) hXN hS (fun _ h => h) rfl hl.1 rfl (lv_room (Nat.le_of_ble_eq_true rfl)) dL_damp_6 ⟨Nat.le_of_ble_eq_true rfl, Nat.le_of_ble_eq_true rfl⟩ (fun E ce q9 H locs hxe hP hD hS hce hcv hcl => ?_) (fun hc0 => ?_)
  · rcases hxe with ⟨hc, rfl⟩ | ⟨hc, rfl⟩ | ⟨hc, rfl⟩
    · refine vx_catch (own := RL) (name := "java/util/NoSuchElementException") (E := nsN) hown [] ⟨0, 10, 13, 21⟩ [⟨0, 10, 17, 13⟩] (hT.trans rfl) (fun _ h => nomatch h) (by decide) (by decide) (hts (.classLink RL 21 "java/util/NoSuchElementException") (by decide +kernel)) (nw_use (w := .castable "java/util/NoSuchElementException" "java/util/NoSuchElementException") rfl (hXN.2 _ (by decide +kernel))) hce hcv hcl ?_
      refine lv_astore (lv' := [(5, .ref q9), (0, .ref ob), (1, .int x1), (2, .long x2), (4, .ref out)]) hx hb dL_damp_13 hl (by decide) rfl (fun ls hl => ?_)
      refine lv_iconst (v := 1) hx hb dL_damp_15 (by decide) ?_
      exact W.widen (k := 2) (n := 12) (Nat.le_of_ble_eq_true rfl) (Nat.le_of_ble_eq_true rfl) (W.iret hx hb hr (fun t ht hW => ⟨by rw [hc]; rfl, ⟨g, WM hP hK hD hKC0 hTC hS ht hW.alike, ⟨fun z => absurd z (by rw [hc]; decide), fun _ _ => rfl⟩⟩, hS.F ht⟩) (fun q h => hS.2.2 q h) dL_damp_16)
    · refine vx_catch (own := RL) (name := "java/lang/IllegalArgumentException") (E := ieN) hown [⟨0, 10, 13, 21⟩] ⟨0, 10, 17, 13⟩ [] (hT.trans rfl) (fun z hz => by simp only [List.mem_cons, List.not_mem_nil, or_false] at hz; rcases hz with rfl; exact Or.inr ⟨by decide, "java/util/NoSuchElementException", hts (.classLink RL 21 "java/util/NoSuchElementException") (by decide +kernel), hXN.1.2 ("java/lang/IllegalArgumentException", "java/util/NoSuchElementException") (by decide +kernel)⟩) (by decide) (by decide) (hts (.classLink RL 13 "java/lang/IllegalArgumentException") (by decide +kernel)) (nw_use (w := .castable "java/lang/IllegalArgumentException" "java/lang/IllegalArgumentException") rfl (hXN.2 _ (by decide +kernel))) hce hcv hcl ?_
      refine lv_astore (lv' := [(5, .ref q9), (0, .ref ob), (1, .int x1), (2, .long x2), (4, .ref out)]) hx hb dL_damp_17 hl (by decide) rfl (fun ls hl => ?_)
      refine lv_iconst (v := 2) hx hb dL_damp_19 (by decide) ?_
      exact W.widen (k := 2) (n := 12) (Nat.le_of_ble_eq_true rfl) (Nat.le_of_ble_eq_true rfl) (W.iret hx hb hr (fun t ht hW => ⟨by rw [hc]; rfl, ⟨g, WM hP hK hD hKC0 hTC hS ht hW.alike, ⟨fun z => absurd z (by rw [hc]; decide), fun _ _ => rfl⟩⟩, hS.F ht⟩) (fun q h => hS.2.2 q h) dL_damp_20)
    · exact absurd hc (nc3_X2_damp _ _ _ _ _ _ _ _ _ _ _ _ _ _ _)
  · intro g1 H locs hp9 hP hD hS
    refine W.eq (g2 := F0 m 9 ls [.long ((fX2_damp made mvs twi tna fa i nlo nhi nv nst nhs nls ngs x1 x2).2.1), .int (0 : Int32), .ref out]) rfl ?_
    obtain ⟨hn9_nd, hr9⟩ := hp9
    have hg_nd : g1 nd = .inr (1, [.ref (ad i), .long nlo, .long nhi, .long nv, .long ((fX2_damp made mvs twi tna fa i nlo nhi nv nst nhs nls ngs x1 x2).2.2), .long nhs, .long nls, .long ngs]) := hn9_nd
    have hg_out : g1 out = .inl (cyJ, 1, .inr (.inl fo)) := (hr9 out ne_out_nd).trans hg_out
    refine pg_last hx hb hK hP hD hS 0 hL_out hg_out htJ (by unfold vp_in; decide) dL_damp_9 (fun H locs hP hD hS => ?_)
    obtain ⟨g2, eg2⟩ : ∃ z : Nat → va_E, z = va_up g1 out (.inl (cyJ, 1, .inr (.inl (vp_updL fo (0 : Int32).toNatClampNeg ((fX2_damp made mvs twi tna fa i nlo nhi nv nst nhs nls ngs x1 x2).2.1))))) := ⟨_, rfl⟩
    have hP : va_P D vwCl (va_pl L g2) H := by rw [eg2]; exact hP
    have hD : va_D (fun q => q ∈ L) (va_pl L g2) := by rw [eg2]; exact hD
    have hg_out : g2 out = .inl (cyJ, 1, .inr (.inl (vp_updL fo (0 : Int32).toNatClampNeg ((fX2_damp made mvs twi tna fa i nlo nhi nv nst nhs nls ngs x1 x2).2.1)))) := by rw [eg2]; exact va_up_self _ _ _
    have hg_nd : g2 nd = .inr (1, [.ref (ad i), .long nlo, .long nhi, .long nv, .long ((fX2_damp made mvs twi tna fa i nlo nhi nv nst nhs nls ngs x1 x2).2.2), .long nhs, .long nls, .long ngs]) := (congrFun eg2 nd).trans ((va_up_ne _ _ ne_nd_out).trans hg_nd)
    have hr8 : ∀ q : Nat, q ≠ nd → q ≠ out → g2 q = g q := fun q h_nd h_out => (congrFun eg2 q).trans ((va_up_ne _ _ h_out).trans (hr9 q h_nd))
    refine lv_goto (tgt := 21) hx hb dL_damp_10 (by decide) ?_
    refine lv_iconst (v := 0) hx hb dL_damp_21 (by decide) ?_
    exact W.widen (k := 2) (n := 12) (Nat.le_of_ble_eq_true rfl) (Nat.le_of_ble_eq_true rfl) (W.iret hx hb hr (fun t ht hW => ⟨by rw [hc0]; rfl, ⟨g2, WM hP hK hD hKC0 hTC hS ht hW.alike, ⟨fun _ => ⟨hg_nd, hg_out, hr8⟩, fun z => absurd hc0 z⟩⟩, hS.F ht⟩) (fun q h => hS.2.2 q h) dL_damp_22)
theorem hd_L_pull : yL_pull.cls ≠ "java/lang/invoke/MethodHandle" ∧ yL_pull.cls ≠ "java/lang/invoke/VarHandle" ∧ (parseMethodDescriptor yL_pull.desc).map (fun d => d.parameters.length) = some 4 := by decide +kernel
set_option maxHeartbeats 1000000 in
set_option maxRecDepth 100000 in
theorem c_L_pull_no (l : Launch) (hfl : l.stackTraces = false) {cyJ : ClassId} {cyN : ClassId} (D : va_G) (tys : List (ClassId × FieldType)) (ad : Nat → Nat) (L : List Nat) (g : Nat → va_E) (ob arr out : Nat) (made : Int32) (mvs : Int32) (twi : Int64) (tna : Int32) (fa : Nat → Option Nat) (x1 : Int32) (x2 : Int64) (fo : Nat → Int64) (hL_ob : ob ∈ L) (hL_arr : arr ∈ L) (hg_ob : g ob = .inr (2, [.ref arr, .int made, .int mvs, .long twi, .int tna])) (hg_arr : g arr = .inl (cyN, 8, .inr (.inr (.inr (.inr fa))))) (htN : tys[2]? = some (cyN, .object RX1)) (hab : ¬ vp_in x1 8 ∨ fa x1.toNatClampNeg = none) (hL_out : out ∈ L) (hg_out : g out = .inl (cyJ, 1, .inr (.inl fo))) (htJ : tys[0]? = some (cyJ, .long)) : Met l yL_pull wsL_pull ({ frames := 8, cells := 1, slots := 6, locals := 130 }) (PW D tys ad L g [.ref ob, .int x1, .long x2, .ref out]) (QE D tys ad L (some (.int (nI (1)))) (fun g1 => ∀ q : Nat, g1 q = g q)) 1 6 (fun q => q ∈ L) := by
  refine va_MetW (cc := cL_pull) (maxL := 6) (ret := some .int) (hh := [(0, 18, 21, 21), (0, 18, 25, 13)]) (by decide) rfl ?_
  intro p e s m args below meth c s₁ B hml hv
  obtain ⟨rfl, ⟨hP, hK, hD0, hKC0, hTC⟩, hXN⟩ := hv
  have hD : va_D (fun q => q ∈ L) (va_pl L g) := we_D (fun _ h => h) hD0
  have hKC : KC ad (fun q => q ∈ L) s s.heap := hKC0.narrow (fun _ h => Or.inl h)
  have hS : va_S (fun q => q ∈ L) s.heap s.heap [] := va_S.rf
  have hx := B.exec
  have hb := B.bytes
  have hr := B.returns
  have hts := atoms_spec (ws := wsL_pull) B.pre
  have hown : s.vm.findClass RL = some m.cls := findClass_of_methodNamed B.named
  have hlocks := B.notSynchronized
  have hT := vx_table (x := yL_pull) B (hts _ List.mem_cons_self)
  have hl := lv_entry ([.ref ob, .int x1, .long x2, .ref out]) (n := 6) (Nat.le_of_ble_eq_true rfl)
  rw [lg_entry_eq]
  generalize (lg_sl ([.ref ob, .int x1, .long x2, .ref out]) ++ List.replicate (6 - (lg_sl ([.ref ob, .int x1, .long x2, .ref out])).length) Slot.unset).toArray = ls at hl ⊢
  have hl : lv_has ls 6 [(0, .ref ob), (1, .int x1), (2, .long x2), (4, .ref out)] := hl
  refine lv_aload hx hb dL_pull_0 (lv_at hl 3 rfl) ?_
  refine lv_iconst (v := 0) hx hb dL_pull_2 (by decide) ?_
  refine lv_aload_n hx hb dL_pull_3 rfl (lv_at hl 0 rfl) ?_
  refine lv_iload_n hx hb dL_pull_4 rfl (lv_at hl 1 rfl) ?_
  refine lv_lload_n hx hb dL_pull_5 rfl (lv_at hl 2 rfl) ?_
  refine hr_V (b := ob) (As := [.int x1, .long x2]) (rest := [.int (0 : Int32), .ref out]) ⟨hx, hb, hml, hown, hts⟩ (c_X2_pull_no l hfl D tys ad L g ob arr made mvs twi tna fa x1 x2 hL_ob hL_arr hg_ob hg_arr htN hab) (cwV 2 hts gL_pull_X2_pull rfl rfl rfl hd_X2_pull ⟨Nat.le_of_ble_eq_true rfl, Nat.le_of_ble_eq_true rfl⟩) (pg_recv hK hP hL_ob hg_ob rfl) (fun U hU hvm => WM hP hK hD hKC0 hTC hS hU hvm) hXN hS (fun _ h => h) rfl hl.1 rfl (lv_room (Nat.le_of_ble_eq_true rfl)) dL_pull_6 ⟨Nat.le_of_ble_eq_true rfl, Nat.le_of_ble_eq_true rfl⟩ (fun E ce q9 H locs hxe hP hD hS hce hcv hcl => ?_) (fun hc0 => ?_)
  · rcases hxe with ⟨hc, rfl⟩ | ⟨hc, rfl⟩ | ⟨hc, rfl⟩
    · refine vx_catch (own := RL) (name := "java/util/NoSuchElementException") (E := nsN) hown [] ⟨0, 18, 21, 21⟩ [⟨0, 18, 25, 13⟩] (hT.trans rfl) (fun _ h => nomatch h) (by decide) (by decide) (hts (.classLink RL 21 "java/util/NoSuchElementException") (by decide +kernel)) (nw_use (w := .castable "java/util/NoSuchElementException" "java/util/NoSuchElementException") rfl (hXN.2 _ (by decide +kernel))) hce hcv hcl ?_
      refine lv_astore (lv' := [(5, .ref q9), (0, .ref ob), (1, .int x1), (2, .long x2), (4, .ref out)]) hx hb dL_pull_21 hl (by decide) rfl (fun ls hl => ?_)
      refine lv_iconst (v := 1) hx hb dL_pull_23 (by decide) ?_
      exact W.widen (k := 1) (n := 6) (Nat.le_of_ble_eq_true rfl) (Nat.le_of_ble_eq_true rfl) (W.iret hx hb hr (fun t ht hW => ⟨rfl, ⟨g, WM hP hK hD hKC0 hTC hS ht hW.alike, fun _ => rfl⟩, hS.F ht⟩) (fun q h => hS.2.2 q h) dL_pull_24)
    · exact absurd hc (by decide)
    · exact absurd hc (by decide)
  · exact absurd hc0 (by decide)
theorem nc3_X2_pull (made : Int32) (mvs : Int32) (twi : Int64) (tna : Int32) (fa : Nat → Option Nat) (i : Nat) (nlo : Int64) (nhi : Int64) (nv : Int64) (nst : Int64) (nhs : Int64) (nls : Int64) (ngs : Int64) (x1 : Int32) (x2 : Int64) : ¬ (fX2_pull made mvs twi tna fa i nlo nhi nv nst nhs nls ngs x1 x2).1 = 3 := by
  unfold fX2_pull
  try dsimp only
  repeat' split
  all_goals first | (simp; done) | (have h9 := nf_code i x2; simp only []; omega) | omega
set_option maxHeartbeats 1000000 in
set_option maxRecDepth 100000 in
theorem c_L_pull (l : Launch) (hfl : l.stackTraces = false) {cyJ : ClassId} {cyN : ClassId} (D : va_G) (tys : List (ClassId × FieldType)) (ad : Nat → Nat) (L : List Nat) (g : Nat → va_E) (ob arr nd out : Nat) (made : Int32) (mvs : Int32) (twi : Int64) (tna : Int32) (fa : Nat → Option Nat) (i : Nat) (nlo : Int64) (nhi : Int64) (nv : Int64) (nst : Int64) (nhs : Int64) (nls : Int64) (ngs : Int64) (x1 : Int32) (x2 : Int64) (fo : Nat → Int64) (hi : i < 2) (hL_ob : ob ∈ L) (hL_arr : arr ∈ L) (hL_nd : nd ∈ L) (hg_ob : g ob = .inr (2, [.ref arr, .int made, .int mvs, .long twi, .int tna])) (hg_arr : g arr = .inl (cyN, 8, .inr (.inr (.inr (.inr fa))))) (hg_nd : g nd = .inr (1, [.ref (ad i), .long nlo, .long nhi, .long nv, .long nst, .long nhs, .long nls, .long ngs])) (ne_ob_nd : ob ≠ nd) (ne_arr_ob : arr ≠ ob) (ne_arr_nd : arr ≠ nd) (ne_nd_ob : nd ≠ ob) (htN : tys[2]? = some (cyN, .object RX1)) (hia : vp_in x1 8) (hfa : fa x1.toNatClampNeg = some nd) (hL_out : out ∈ L) (hg_out : g out = .inl (cyJ, 1, .inr (.inl fo))) (htJ : tys[0]? = some (cyJ, .long)) (ne_out_nd : out ≠ nd) (ne_nd_out : nd ≠ out) (ne_out_ob : out ≠ ob) (ne_ob_out : ob ≠ out) : Met l yL_pull wsL_pull ({ frames := 8, cells := 2, slots := 12, locals := 187 }) (PW D tys ad L g [.ref ob, .int x1, .long x2, .ref out]) (QE D tys ad L (some (.int (nI (((fX2_pull made mvs twi tna fa i nlo nhi nv nst nhs nls ngs x1 x2).1))))) (fun g1 => (((fX2_pull made mvs twi tna fa i nlo nhi nv nst nhs nls ngs x1 x2).1) = 0 → g1 nd = .inr (1, [.ref (ad i), .long nlo, .long nhi, .long ((fX2_pull made mvs twi tna fa i nlo nhi nv nst nhs nls ngs x1 x2).2.2.1), .long nst, .long ((fX2_pull made mvs twi tna fa i nlo nhi nv nst nhs nls ngs x1 x2).2.2.2.1), .long ((fX2_pull made mvs twi tna fa i nlo nhi nv nst nhs nls ngs x1 x2).2.2.2.2.1), .long ((fX2_pull made mvs twi tna fa i nlo nhi nv nst nhs nls ngs x1 x2).2.2.2.2.2.1)]) ∧ g1 ob = .inr (2, [.ref arr, .int made, .int ((fX2_pull made mvs twi tna fa i nlo nhi nv nst nhs nls ngs x1 x2).2.2.2.2.2.2), .long twi, .int tna]) ∧ g1 out = .inl (cyJ, 1, .inr (.inl (vp_updL fo (0 : Int32).toNatClampNeg (if ((fX2_pull made mvs twi tna fa i nlo nhi nv nst nhs nls ngs x1 x2).2.1) = 0 then (0 : Int64) else 1)))) ∧ ∀ q : Nat, q ≠ nd → q ≠ ob → q ≠ out → g1 q = g q) ∧ (¬ ((fX2_pull made mvs twi tna fa i nlo nhi nv nst nhs nls ngs x1 x2).1) = 0 → ∀ q : Nat, g1 q = g q))) 2 12 (fun q => q ∈ L) := by
  refine va_MetW (cc := cL_pull) (maxL := 6) (ret := some .int) (hh := [(0, 18, 21, 21), (0, 18, 25, 13)]) (by decide) rfl ?_
  intro p e s m args below meth c s₁ B hml hv
  obtain ⟨rfl, ⟨hP, hK, hD0, hKC0, hTC⟩, hXN⟩ := hv
  have hD : va_D (fun q => q ∈ L) (va_pl L g) := we_D (fun _ h => h) hD0
  have hKC : KC ad (fun q => q ∈ L) s s.heap := hKC0.narrow (fun _ h => Or.inl h)
  have hS : va_S (fun q => q ∈ L) s.heap s.heap [] := va_S.rf
  have hx := B.exec
  have hb := B.bytes
  have hr := B.returns
  have hts := atoms_spec (ws := wsL_pull) B.pre
  have hown : s.vm.findClass RL = some m.cls := findClass_of_methodNamed B.named
  have hlocks := B.notSynchronized
  have hT := vx_table (x := yL_pull) B (hts _ List.mem_cons_self)
  have hl := lv_entry ([.ref ob, .int x1, .long x2, .ref out]) (n := 6) (Nat.le_of_ble_eq_true rfl)
  rw [lg_entry_eq]
  generalize (lg_sl ([.ref ob, .int x1, .long x2, .ref out]) ++ List.replicate (6 - (lg_sl ([.ref ob, .int x1, .long x2, .ref out])).length) Slot.unset).toArray = ls at hl ⊢
  have hl : lv_has ls 6 [(0, .ref ob), (1, .int x1), (2, .long x2), (4, .ref out)] := hl
  refine lv_aload hx hb dL_pull_0 (lv_at hl 3 rfl) ?_
  refine lv_iconst (v := 0) hx hb dL_pull_2 (by decide) ?_
  refine lv_aload_n hx hb dL_pull_3 rfl (lv_at hl 0 rfl) ?_
  refine lv_iload_n hx hb dL_pull_4 rfl (lv_at hl 1 rfl) ?_
  refine lv_lload_n hx hb dL_pull_5 rfl (lv_at hl 2 rfl) ?_
  refine hc_V (b := ob) (As := [.int x1, .long x2]) (rest := [.int (0 : Int32), .ref out]) ⟨hx, hb, hml, hown, hts⟩ (c_X2_pull l hfl D tys ad L g ob arr nd made mvs twi tna fa i nlo nhi nv nst nhs nls ngs x1 x2 hi hL_ob hL_arr hL_nd hg_ob hg_arr hg_nd ne_ob_nd ne_arr_ob ne_arr_nd ne_nd_ob htN hia hfa) (cwV 2 hts gL_pull_X2_pull rfl rfl rfl hd_X2_pull ⟨Nat.le_of_ble_eq_true rfl, Nat.le_of_ble_eq_true rfl⟩) (pg_recv hK hP hL_ob hg_ob rfl) (fun U hU hvm => WM hP hK hD hKC0 hTC hS hU hvm) hXN hS (fun _ h => h) rfl hl.1 rfl (lv_room (Nat.le_of_ble_eq_true rfl)) dL_pull_6 ⟨Nat.le_of_ble_eq_true rfl, Nat.le_of_ble_eq_true rfl⟩ (fun E ce q9 H locs hxe hP hD hS hce hcv hcl => ?_) (fun hc0 => ?_)
  · rcases hxe with ⟨hc, rfl⟩ | ⟨hc, rfl⟩ | ⟨hc, rfl⟩
    · refine vx_catch (own := RL) (name := "java/util/NoSuchElementException") (E := nsN) hown [] ⟨0, 18, 21, 21⟩ [⟨0, 18, 25, 13⟩] (hT.trans rfl) (fun _ h => nomatch h) (by decide) (by decide) (hts (.classLink RL 21 "java/util/NoSuchElementException") (by decide +kernel)) (nw_use (w := .castable "java/util/NoSuchElementException" "java/util/NoSuchElementException") rfl (hXN.2 _ (by decide +kernel))) hce hcv hcl ?_
      refine lv_astore (lv' := [(5, .ref q9), (0, .ref ob), (1, .int x1), (2, .long x2), (4, .ref out)]) hx hb dL_pull_21 hl (by decide) rfl (fun ls hl => ?_)
      refine lv_iconst (v := 1) hx hb dL_pull_23 (by decide) ?_
      exact W.widen (k := 2) (n := 12) (Nat.le_of_ble_eq_true rfl) (Nat.le_of_ble_eq_true rfl) (W.iret hx hb hr (fun t ht hW => ⟨by rw [hc]; rfl, ⟨g, WM hP hK hD hKC0 hTC hS ht hW.alike, ⟨fun z => absurd z (by rw [hc]; decide), fun _ _ => rfl⟩⟩, hS.F ht⟩) (fun q h => hS.2.2 q h) dL_pull_24)
    · refine vx_catch (own := RL) (name := "java/lang/IllegalArgumentException") (E := ieN) hown [⟨0, 18, 21, 21⟩] ⟨0, 18, 25, 13⟩ [] (hT.trans rfl) (fun z hz => by simp only [List.mem_cons, List.not_mem_nil, or_false] at hz; rcases hz with rfl; exact Or.inr ⟨by decide, "java/util/NoSuchElementException", hts (.classLink RL 21 "java/util/NoSuchElementException") (by decide +kernel), hXN.1.2 ("java/lang/IllegalArgumentException", "java/util/NoSuchElementException") (by decide +kernel)⟩) (by decide) (by decide) (hts (.classLink RL 13 "java/lang/IllegalArgumentException") (by decide +kernel)) (nw_use (w := .castable "java/lang/IllegalArgumentException" "java/lang/IllegalArgumentException") rfl (hXN.2 _ (by decide +kernel))) hce hcv hcl ?_
      refine lv_astore (lv' := [(5, .ref q9), (0, .ref ob), (1, .int x1), (2, .long x2), (4, .ref out)]) hx hb dL_pull_25 hl (by decide) rfl (fun ls hl => ?_)
      refine lv_iconst (v := 2) hx hb dL_pull_27 (by decide) ?_
      exact W.widen (k := 2) (n := 12) (Nat.le_of_ble_eq_true rfl) (Nat.le_of_ble_eq_true rfl) (W.iret hx hb hr (fun t ht hW => ⟨by rw [hc]; rfl, ⟨g, WM hP hK hD hKC0 hTC hS ht hW.alike, ⟨fun z => absurd z (by rw [hc]; decide), fun _ _ => rfl⟩⟩, hS.F ht⟩) (fun q h => hS.2.2 q h) dL_pull_28)
    · exact absurd hc (nc3_X2_pull _ _ _ _ _ _ _ _ _ _ _ _ _ _ _)
  · intro g1 H locs hp9 hP hD hS
    refine W.eq (g2 := F0 m 9 ls [.int ((fX2_pull made mvs twi tna fa i nlo nhi nv nst nhs nls ngs x1 x2).2.1), .int (0 : Int32), .ref out]) rfl ?_
    obtain ⟨hn9_nd, hn9_ob, hr9⟩ := hp9
    have hg_nd : g1 nd = .inr (1, [.ref (ad i), .long nlo, .long nhi, .long ((fX2_pull made mvs twi tna fa i nlo nhi nv nst nhs nls ngs x1 x2).2.2.1), .long nst, .long ((fX2_pull made mvs twi tna fa i nlo nhi nv nst nhs nls ngs x1 x2).2.2.2.1), .long ((fX2_pull made mvs twi tna fa i nlo nhi nv nst nhs nls ngs x1 x2).2.2.2.2.1), .long ((fX2_pull made mvs twi tna fa i nlo nhi nv nst nhs nls ngs x1 x2).2.2.2.2.2.1)]) := hn9_nd
    have hg_ob : g1 ob = .inr (2, [.ref arr, .int made, .int ((fX2_pull made mvs twi tna fa i nlo nhi nv nst nhs nls ngs x1 x2).2.2.2.2.2.2), .long twi, .int tna]) := hn9_ob
    have hg_out : g1 out = .inl (cyJ, 1, .inr (.inl fo)) := (hr9 out ne_out_nd ne_out_ob).trans hg_out
    refine lv_if_eq (tgt := 16) hx hb dL_pull_9 (by decide) (fun c_1 => ?_) (fun c_1 => ?_)
    · refine lv_lconst (v := 0) hx hb dL_pull_16 (by decide) ?_
      refine pg_last hx hb hK hP hD hS 0 hL_out hg_out htJ (by unfold vp_in; decide) dL_pull_17 (fun H locs hP hD hS => ?_)
      obtain ⟨g2, eg2⟩ : ∃ z : Nat → va_E, z = va_up g1 out (.inl (cyJ, 1, .inr (.inl (vp_updL fo (0 : Int32).toNatClampNeg (0 : Int64))))) := ⟨_, rfl⟩
      have hP : va_P D vwCl (va_pl L g2) H := by rw [eg2]; exact hP
      have hD : va_D (fun q => q ∈ L) (va_pl L g2) := by rw [eg2]; exact hD
      have hg_out : g2 out = .inl (cyJ, 1, .inr (.inl (vp_updL fo (0 : Int32).toNatClampNeg (0 : Int64)))) := by rw [eg2]; exact va_up_self _ _ _
      have hg_nd : g2 nd = .inr (1, [.ref (ad i), .long nlo, .long nhi, .long ((fX2_pull made mvs twi tna fa i nlo nhi nv nst nhs nls ngs x1 x2).2.2.1), .long nst, .long ((fX2_pull made mvs twi tna fa i nlo nhi nv nst nhs nls ngs x1 x2).2.2.2.1), .long ((fX2_pull made mvs twi tna fa i nlo nhi nv nst nhs nls ngs x1 x2).2.2.2.2.1), .long ((fX2_pull made mvs twi tna fa i nlo nhi nv nst nhs nls ngs x1 x2).2.2.2.2.2.1)]) := (congrFun eg2 nd).trans ((va_up_ne _ _ ne_nd_out).trans hg_nd)
      have hg_ob : g2 ob = .inr (2, [.ref arr, .int made, .int ((fX2_pull made mvs twi tna fa i nlo nhi nv nst nhs nls ngs x1 x2).2.2.2.2.2.2), .long twi, .int tna]) := (congrFun eg2 ob).trans ((va_up_ne _ _ ne_ob_out).trans hg_ob)
      have hr8 : ∀ q : Nat, q ≠ nd → q ≠ ob → q ≠ out → g2 q = g q := fun q h_nd h_ob h_out => (congrFun eg2 q).trans ((va_up_ne _ _ h_out).trans (hr9 q h_nd h_ob))
      refine lv_goto (tgt := 29) hx hb dL_pull_18 (by decide) ?_
      refine lv_iconst (v := 0) hx hb dL_pull_29 (by decide) ?_
      exact W.widen (k := 2) (n := 12) (Nat.le_of_ble_eq_true rfl) (Nat.le_of_ble_eq_true rfl) (W.iret hx hb hr (fun t ht hW => ⟨by rw [hc0]; rfl, ⟨g2, WM hP hK hD hKC0 hTC hS ht hW.alike, ⟨fun _ => ⟨hg_nd, hg_ob, by rw [if_pos c_1]; exact hg_out, hr8⟩, fun z => absurd hc0 z⟩⟩, hS.F ht⟩) (fun q h => hS.2.2 q h) dL_pull_30)
    · refine lv_lconst (v := 1) hx hb dL_pull_12 (by decide) ?_
      refine lv_goto (tgt := 17) hx hb dL_pull_13 (by decide) ?_
      refine pg_last hx hb hK hP hD hS 0 hL_out hg_out htJ (by unfold vp_in; decide) dL_pull_17 (fun H locs hP hD hS => ?_)
      obtain ⟨g2, eg2⟩ : ∃ z : Nat → va_E, z = va_up g1 out (.inl (cyJ, 1, .inr (.inl (vp_updL fo (0 : Int32).toNatClampNeg (1 : Int64))))) := ⟨_, rfl⟩
      have hP : va_P D vwCl (va_pl L g2) H := by rw [eg2]; exact hP
      have hD : va_D (fun q => q ∈ L) (va_pl L g2) := by rw [eg2]; exact hD
      have hg_out : g2 out = .inl (cyJ, 1, .inr (.inl (vp_updL fo (0 : Int32).toNatClampNeg (1 : Int64)))) := by rw [eg2]; exact va_up_self _ _ _
      have hg_nd : g2 nd = .inr (1, [.ref (ad i), .long nlo, .long nhi, .long ((fX2_pull made mvs twi tna fa i nlo nhi nv nst nhs nls ngs x1 x2).2.2.1), .long nst, .long ((fX2_pull made mvs twi tna fa i nlo nhi nv nst nhs nls ngs x1 x2).2.2.2.1), .long ((fX2_pull made mvs twi tna fa i nlo nhi nv nst nhs nls ngs x1 x2).2.2.2.2.1), .long ((fX2_pull made mvs twi tna fa i nlo nhi nv nst nhs nls ngs x1 x2).2.2.2.2.2.1)]) := (congrFun eg2 nd).trans ((va_up_ne _ _ ne_nd_out).trans hg_nd)
      have hg_ob : g2 ob = .inr (2, [.ref arr, .int made, .int ((fX2_pull made mvs twi tna fa i nlo nhi nv nst nhs nls ngs x1 x2).2.2.2.2.2.2), .long twi, .int tna]) := (congrFun eg2 ob).trans ((va_up_ne _ _ ne_ob_out).trans hg_ob)
      have hr8 : ∀ q : Nat, q ≠ nd → q ≠ ob → q ≠ out → g2 q = g q := fun q h_nd h_ob h_out => (congrFun eg2 q).trans ((va_up_ne _ _ h_out).trans (hr9 q h_nd h_ob))
      refine lv_goto (tgt := 29) hx hb dL_pull_18 (by decide) ?_
      refine lv_iconst (v := 0) hx hb dL_pull_29 (by decide) ?_
      exact W.widen (k := 2) (n := 12) (Nat.le_of_ble_eq_true rfl) (Nat.le_of_ble_eq_true rfl) (W.iret hx hb hr (fun t ht hW => ⟨by rw [hc0]; rfl, ⟨g2, WM hP hK hD hKC0 hTC hS ht hW.alike, ⟨fun _ => ⟨hg_nd, hg_ob, by rw [if_neg c_1]; exact hg_out, hr8⟩, fun z => absurd hc0 z⟩⟩, hS.F ht⟩) (fun q h => hS.2.2 q h) dL_pull_30)
theorem hd_L_rest : yL_rest.cls ≠ "java/lang/invoke/MethodHandle" ∧ yL_rest.cls ≠ "java/lang/invoke/VarHandle" ∧ (parseMethodDescriptor yL_rest.desc).map (fun d => d.parameters.length) = some 4 := by decide +kernel
set_option maxHeartbeats 1000000 in
set_option maxRecDepth 100000 in
theorem c_L_rest_no (l : Launch) (hfl : l.stackTraces = false) {cyJ : ClassId} {cyN : ClassId} (D : va_G) (tys : List (ClassId × FieldType)) (ad : Nat → Nat) (L : List Nat) (g : Nat → va_E) (ob arr out : Nat) (made : Int32) (mvs : Int32) (twi : Int64) (tna : Int32) (fa : Nat → Option Nat) (x1 : Int32) (x2 : Int32) (fo : Nat → Int64) (hL_ob : ob ∈ L) (hL_arr : arr ∈ L) (hg_ob : g ob = .inr (2, [.ref arr, .int made, .int mvs, .long twi, .int tna])) (hg_arr : g arr = .inl (cyN, 8, .inr (.inr (.inr (.inr fa))))) (htN : tys[2]? = some (cyN, .object RX1)) (hab : ¬ vp_in x1 8 ∨ fa x1.toNatClampNeg = none) (hL_out : out ∈ L) (hg_out : g out = .inl (cyJ, 1, .inr (.inl fo))) (htJ : tys[0]? = some (cyJ, .long)) : Met l yL_rest wsL_rest ({ frames := 8, cells := 1, slots := 6, locals := 127 }) (PW D tys ad L g [.ref ob, .int x1, .int x2, .ref out]) (QE D tys ad L (some (.int (nI (1)))) (fun g1 => ∀ q : Nat, g1 q = g q)) 1 6 (fun q => q ∈ L) := by
  refine va_MetW (cc := cL_rest) (maxL := 5) (ret := some .int) (hh := [(0, 9, 12, 21), (0, 9, 16, 13)]) (by decide) rfl ?_
  intro p e s m args below meth c s₁ B hml hv
  obtain ⟨rfl, ⟨hP, hK, hD0, hKC0, hTC⟩, hXN⟩ := hv
  have hD : va_D (fun q => q ∈ L) (va_pl L g) := we_D (fun _ h => h) hD0
  have hKC : KC ad (fun q => q ∈ L) s s.heap := hKC0.narrow (fun _ h => Or.inl h)
  have hS : va_S (fun q => q ∈ L) s.heap s.heap [] := va_S.rf
  have hx := B.exec
  have hb := B.bytes
  have hr := B.returns
  have hts := atoms_spec (ws := wsL_rest) B.pre
  have hown : s.vm.findClass RL = some m.cls := findClass_of_methodNamed B.named
  have hlocks := B.notSynchronized
  have hT := vx_table (x := yL_rest) B (hts _ List.mem_cons_self)
  have hl := lv_entry ([.ref ob, .int x1, .int x2, .ref out]) (n := 5) (Nat.le_of_ble_eq_true rfl)
  rw [lg_entry_eq]
  generalize (lg_sl ([.ref ob, .int x1, .int x2, .ref out]) ++ List.replicate (5 - (lg_sl ([.ref ob, .int x1, .int x2, .ref out])).length) Slot.unset).toArray = ls at hl ⊢
  have hl : lv_has ls 5 [(0, .ref ob), (1, .int x1), (2, .int x2), (3, .ref out)] := hl
  refine lv_aload_n hx hb dL_rest_0 rfl (lv_at hl 3 rfl) ?_
  refine lv_iconst (v := 0) hx hb dL_rest_1 (by decide) ?_
  refine lv_aload_n hx hb dL_rest_2 rfl (lv_at hl 0 rfl) ?_
  refine lv_iload_n hx hb dL_rest_3 rfl (lv_at hl 1 rfl) ?_
  refine lv_iload_n hx hb dL_rest_4 rfl (lv_at hl 2 rfl) ?_
  refine hr_V (b := ob) (As := [.int x1, .int x2]) (rest := [.int (0 : Int32), .ref out]) ⟨hx, hb, hml, hown, hts⟩ (c_X2_rest_no l hfl D tys ad L g ob arr made mvs twi tna fa x1 x2 hL_ob hL_arr hg_ob hg_arr htN hab) (cwV 2 hts gL_rest_X2_rest rfl rfl rfl hd_X2_rest ⟨Nat.le_of_ble_eq_true rfl, Nat.le_of_ble_eq_true rfl⟩) (pg_recv hK hP hL_ob hg_ob rfl) (fun U hU hvm => WM hP hK hD hKC0 hTC hS hU hvm) hXN hS (fun _ h => h) rfl hl.1 rfl (lv_room (Nat.le_of_ble_eq_true rfl)) dL_rest_5 ⟨Nat.le_of_ble_eq_true rfl, Nat.le_of_ble_eq_true rfl⟩ (fun E ce q9 H locs hxe hP hD hS hce hcv hcl => ?_) (fun hc0 => ?_)
  · rcases hxe with ⟨hc, rfl⟩ | ⟨hc, rfl⟩ | ⟨hc, rfl⟩
    · refine vx_catch (own := RL) (name := "java/util/NoSuchElementException") (E := nsN) hown [] ⟨0, 9, 12, 21⟩ [⟨0, 9, 16, 13⟩] (hT.trans rfl) (fun _ h => nomatch h) (by decide) (by decide) (hts (.classLink RL 21 "java/util/NoSuchElementException") (by decide +kernel)) (nw_use (w := .castable "java/util/NoSuchElementException" "java/util/NoSuchElementException") rfl (hXN.2 _ (by decide +kernel))) hce hcv hcl ?_
      refine lv_astore (lv' := [(4, .ref q9), (0, .ref ob), (1, .int x1), (2, .int x2), (3, .ref out)]) hx hb dL_rest_12 hl (by decide) rfl (fun ls hl => ?_)
      refine lv_iconst (v := 1) hx hb dL_rest_14 (by decide) ?_
      exact W.widen (k := 1) (n := 6) (Nat.le_of_ble_eq_true rfl) (Nat.le_of_ble_eq_true rfl) (W.iret hx hb hr (fun t ht hW => ⟨rfl, ⟨g, WM hP hK hD hKC0 hTC hS ht hW.alike, fun _ => rfl⟩, hS.F ht⟩) (fun q h => hS.2.2 q h) dL_rest_15)
    · exact absurd hc (by decide)
    · exact absurd hc (by decide)
  · exact absurd hc0 (by decide)
theorem nc3_X2_rest (made : Int32) (mvs : Int32) (twi : Int64) (tna : Int32) (fa : Nat → Option Nat) (i : Nat) (nlo : Int64) (nhi : Int64) (nv : Int64) (nst : Int64) (nhs : Int64) (nls : Int64) (ngs : Int64) (x1 : Int32) (x2 : Int32) : ¬ (fX2_rest made mvs twi tna fa i nlo nhi nv nst nhs nls ngs x1 x2).1 = 3 := by
  unfold fX2_rest
  try dsimp only
  repeat' split
  all_goals first | (simp; done) | (have h9 := nf_code i x2; simp only []; omega) | omega
set_option maxHeartbeats 1000000 in
set_option maxRecDepth 100000 in
theorem c_L_rest (l : Launch) (hfl : l.stackTraces = false) {cyJ : ClassId} {cyN : ClassId} (D : va_G) (tys : List (ClassId × FieldType)) (ad : Nat → Nat) (L : List Nat) (g : Nat → va_E) (ob arr nd out : Nat) (made : Int32) (mvs : Int32) (twi : Int64) (tna : Int32) (fa : Nat → Option Nat) (i : Nat) (nlo : Int64) (nhi : Int64) (nv : Int64) (nst : Int64) (nhs : Int64) (nls : Int64) (ngs : Int64) (x1 : Int32) (x2 : Int32) (fo : Nat → Int64) (hi : i < 2) (hL_ob : ob ∈ L) (hL_arr : arr ∈ L) (hL_nd : nd ∈ L) (hg_ob : g ob = .inr (2, [.ref arr, .int made, .int mvs, .long twi, .int tna])) (hg_arr : g arr = .inl (cyN, 8, .inr (.inr (.inr (.inr fa))))) (hg_nd : g nd = .inr (1, [.ref (ad i), .long nlo, .long nhi, .long nv, .long nst, .long nhs, .long nls, .long ngs])) (ne_ob_nd : ob ≠ nd) (ne_arr_ob : arr ≠ ob) (ne_arr_nd : arr ≠ nd) (ne_nd_ob : nd ≠ ob) (htN : tys[2]? = some (cyN, .object RX1)) (hia : vp_in x1 8) (hfa : fa x1.toNatClampNeg = some nd) (hL_out : out ∈ L) (hg_out : g out = .inl (cyJ, 1, .inr (.inl fo))) (htJ : tys[0]? = some (cyJ, .long)) (ne_out_nd : out ≠ nd) (ne_nd_out : nd ≠ out) (ne_out_ob : out ≠ ob) (ne_ob_out : ob ≠ out) : Met l yL_rest wsL_rest ({ frames := 8, cells := 2, slots := 12, locals := 137 }) (PW D tys ad L g [.ref ob, .int x1, .int x2, .ref out]) (QE D tys ad L (some (.int (nI (((fX2_rest made mvs twi tna fa i nlo nhi nv nst nhs nls ngs x1 x2).1))))) (fun g1 => (((fX2_rest made mvs twi tna fa i nlo nhi nv nst nhs nls ngs x1 x2).1) = 0 → g1 nd = .inr (1, [.ref (ad i), .long nlo, .long nhi, .long ((fX2_rest made mvs twi tna fa i nlo nhi nv nst nhs nls ngs x1 x2).2.2.1), .long nst, .long ((fX2_rest made mvs twi tna fa i nlo nhi nv nst nhs nls ngs x1 x2).2.2.2.1), .long ((fX2_rest made mvs twi tna fa i nlo nhi nv nst nhs nls ngs x1 x2).2.2.2.2.1), .long ((fX2_rest made mvs twi tna fa i nlo nhi nv nst nhs nls ngs x1 x2).2.2.2.2.2.1)]) ∧ g1 ob = .inr (2, [.ref arr, .int made, .int ((fX2_rest made mvs twi tna fa i nlo nhi nv nst nhs nls ngs x1 x2).2.2.2.2.2.2), .long twi, .int tna]) ∧ g1 out = .inl (cyJ, 1, .inr (.inl (vp_updL fo (0 : Int32).toNatClampNeg ((fX2_rest made mvs twi tna fa i nlo nhi nv nst nhs nls ngs x1 x2).2.1)))) ∧ ∀ q : Nat, q ≠ nd → q ≠ ob → q ≠ out → g1 q = g q) ∧ (¬ ((fX2_rest made mvs twi tna fa i nlo nhi nv nst nhs nls ngs x1 x2).1) = 0 → ∀ q : Nat, g1 q = g q))) 2 12 (fun q => q ∈ L) := by
  refine va_MetW (cc := cL_rest) (maxL := 5) (ret := some .int) (hh := [(0, 9, 12, 21), (0, 9, 16, 13)]) (by decide) rfl ?_
  intro p e s m args below meth c s₁ B hml hv
  obtain ⟨rfl, ⟨hP, hK, hD0, hKC0, hTC⟩, hXN⟩ := hv
  have hD : va_D (fun q => q ∈ L) (va_pl L g) := we_D (fun _ h => h) hD0
  have hKC : KC ad (fun q => q ∈ L) s s.heap := hKC0.narrow (fun _ h => Or.inl h)
  have hS : va_S (fun q => q ∈ L) s.heap s.heap [] := va_S.rf
  have hx := B.exec
  have hb := B.bytes
  have hr := B.returns
  have hts := atoms_spec (ws := wsL_rest) B.pre
  have hown : s.vm.findClass RL = some m.cls := findClass_of_methodNamed B.named
  have hlocks := B.notSynchronized
  have hT := vx_table (x := yL_rest) B (hts _ List.mem_cons_self)
  have hl := lv_entry ([.ref ob, .int x1, .int x2, .ref out]) (n := 5) (Nat.le_of_ble_eq_true rfl)
  rw [lg_entry_eq]
  generalize (lg_sl ([.ref ob, .int x1, .int x2, .ref out]) ++ List.replicate (5 - (lg_sl ([.ref ob, .int x1, .int x2, .ref out])).length) Slot.unset).toArray = ls at hl ⊢
  have hl : lv_has ls 5 [(0, .ref ob), (1, .int x1), (2, .int x2), (3, .ref out)] := hl
  refine lv_aload_n hx hb dL_rest_0 rfl (lv_at hl 3 rfl) ?_
  refine lv_iconst (v := 0) hx hb dL_rest_1 (by decide) ?_
  refine lv_aload_n hx hb dL_rest_2 rfl (lv_at hl 0 rfl) ?_
  refine lv_iload_n hx hb dL_rest_3 rfl (lv_at hl 1 rfl) ?_
  refine lv_iload_n hx hb dL_rest_4 rfl (lv_at hl 2 rfl) ?_
  refine hc_V (b := ob) (As := [.int x1, .int x2]) (rest := [.int (0 : Int32), .ref out]) ⟨hx, hb, hml, hown, hts⟩ (c_X2_rest l hfl D tys ad L g ob arr nd made mvs twi tna fa i nlo nhi nv nst nhs nls ngs x1 x2 hi hL_ob hL_arr hL_nd hg_ob hg_arr hg_nd ne_ob_nd ne_arr_ob ne_arr_nd ne_nd_ob htN hia hfa) (cwV 2 hts gL_rest_X2_rest rfl rfl rfl hd_X2_rest ⟨Nat.le_of_ble_eq_true rfl, Nat.le_of_ble_eq_true rfl⟩) (pg_recv hK hP hL_ob hg_ob rfl) (fun U hU hvm => WM hP hK hD hKC0 hTC hS hU hvm) hXN hS (fun _ h => h) rfl hl.1 rfl (lv_room (Nat.le_of_ble_eq_true rfl)) dL_rest_5 ⟨Nat.le_of_ble_eq_true rfl, Nat.le_of_ble_eq_true rfl⟩ (fun E ce q9 H locs hxe hP hD hS hce hcv hcl => ?_) (fun hc0 => ?_)
  · rcases hxe with ⟨hc, rfl⟩ | ⟨hc, rfl⟩ | ⟨hc, rfl⟩
    · refine vx_catch (own := RL) (name := "java/util/NoSuchElementException") (E := nsN) hown [] ⟨0, 9, 12, 21⟩ [⟨0, 9, 16, 13⟩] (hT.trans rfl) (fun _ h => nomatch h) (by decide) (by decide) (hts (.classLink RL 21 "java/util/NoSuchElementException") (by decide +kernel)) (nw_use (w := .castable "java/util/NoSuchElementException" "java/util/NoSuchElementException") rfl (hXN.2 _ (by decide +kernel))) hce hcv hcl ?_
      refine lv_astore (lv' := [(4, .ref q9), (0, .ref ob), (1, .int x1), (2, .int x2), (3, .ref out)]) hx hb dL_rest_12 hl (by decide) rfl (fun ls hl => ?_)
      refine lv_iconst (v := 1) hx hb dL_rest_14 (by decide) ?_
      exact W.widen (k := 2) (n := 12) (Nat.le_of_ble_eq_true rfl) (Nat.le_of_ble_eq_true rfl) (W.iret hx hb hr (fun t ht hW => ⟨by rw [hc]; rfl, ⟨g, WM hP hK hD hKC0 hTC hS ht hW.alike, ⟨fun z => absurd z (by rw [hc]; decide), fun _ _ => rfl⟩⟩, hS.F ht⟩) (fun q h => hS.2.2 q h) dL_rest_15)
    · refine vx_catch (own := RL) (name := "java/lang/IllegalArgumentException") (E := ieN) hown [⟨0, 9, 12, 21⟩] ⟨0, 9, 16, 13⟩ [] (hT.trans rfl) (fun z hz => by simp only [List.mem_cons, List.not_mem_nil, or_false] at hz; rcases hz with rfl; exact Or.inr ⟨by decide, "java/util/NoSuchElementException", hts (.classLink RL 21 "java/util/NoSuchElementException") (by decide +kernel), hXN.1.2 ("java/lang/IllegalArgumentException", "java/util/NoSuchElementException") (by decide +kernel)⟩) (by decide) (by decide) (hts (.classLink RL 13 "java/lang/IllegalArgumentException") (by decide +kernel)) (nw_use (w := .castable "java/lang/IllegalArgumentException" "java/lang/IllegalArgumentException") rfl (hXN.2 _ (by decide +kernel))) hce hcv hcl ?_
      refine lv_astore (lv' := [(4, .ref q9), (0, .ref ob), (1, .int x1), (2, .int x2), (3, .ref out)]) hx hb dL_rest_16 hl (by decide) rfl (fun ls hl => ?_)
      refine lv_iconst (v := 2) hx hb dL_rest_18 (by decide) ?_
      exact W.widen (k := 2) (n := 12) (Nat.le_of_ble_eq_true rfl) (Nat.le_of_ble_eq_true rfl) (W.iret hx hb hr (fun t ht hW => ⟨by rw [hc]; rfl, ⟨g, WM hP hK hD hKC0 hTC hS ht hW.alike, ⟨fun z => absurd z (by rw [hc]; decide), fun _ _ => rfl⟩⟩, hS.F ht⟩) (fun q h => hS.2.2 q h) dL_rest_19)
    · exact absurd hc (nc3_X2_rest _ _ _ _ _ _ _ _ _ _ _ _ _ _ _)
  · intro g1 H locs hp9 hP hD hS
    refine W.eq (g2 := F0 m 8 ls [.long ((fX2_rest made mvs twi tna fa i nlo nhi nv nst nhs nls ngs x1 x2).2.1), .int (0 : Int32), .ref out]) rfl ?_
    obtain ⟨hn9_nd, hn9_ob, hr9⟩ := hp9
    have hg_nd : g1 nd = .inr (1, [.ref (ad i), .long nlo, .long nhi, .long ((fX2_rest made mvs twi tna fa i nlo nhi nv nst nhs nls ngs x1 x2).2.2.1), .long nst, .long ((fX2_rest made mvs twi tna fa i nlo nhi nv nst nhs nls ngs x1 x2).2.2.2.1), .long ((fX2_rest made mvs twi tna fa i nlo nhi nv nst nhs nls ngs x1 x2).2.2.2.2.1), .long ((fX2_rest made mvs twi tna fa i nlo nhi nv nst nhs nls ngs x1 x2).2.2.2.2.2.1)]) := hn9_nd
    have hg_ob : g1 ob = .inr (2, [.ref arr, .int made, .int ((fX2_rest made mvs twi tna fa i nlo nhi nv nst nhs nls ngs x1 x2).2.2.2.2.2.2), .long twi, .int tna]) := hn9_ob
    have hg_out : g1 out = .inl (cyJ, 1, .inr (.inl fo)) := (hr9 out ne_out_nd ne_out_ob).trans hg_out
    refine pg_last hx hb hK hP hD hS 0 hL_out hg_out htJ (by unfold vp_in; decide) dL_rest_8 (fun H locs hP hD hS => ?_)
    obtain ⟨g2, eg2⟩ : ∃ z : Nat → va_E, z = va_up g1 out (.inl (cyJ, 1, .inr (.inl (vp_updL fo (0 : Int32).toNatClampNeg ((fX2_rest made mvs twi tna fa i nlo nhi nv nst nhs nls ngs x1 x2).2.1))))) := ⟨_, rfl⟩
    have hP : va_P D vwCl (va_pl L g2) H := by rw [eg2]; exact hP
    have hD : va_D (fun q => q ∈ L) (va_pl L g2) := by rw [eg2]; exact hD
    have hg_out : g2 out = .inl (cyJ, 1, .inr (.inl (vp_updL fo (0 : Int32).toNatClampNeg ((fX2_rest made mvs twi tna fa i nlo nhi nv nst nhs nls ngs x1 x2).2.1)))) := by rw [eg2]; exact va_up_self _ _ _
    have hg_nd : g2 nd = .inr (1, [.ref (ad i), .long nlo, .long nhi, .long ((fX2_rest made mvs twi tna fa i nlo nhi nv nst nhs nls ngs x1 x2).2.2.1), .long nst, .long ((fX2_rest made mvs twi tna fa i nlo nhi nv nst nhs nls ngs x1 x2).2.2.2.1), .long ((fX2_rest made mvs twi tna fa i nlo nhi nv nst nhs nls ngs x1 x2).2.2.2.2.1), .long ((fX2_rest made mvs twi tna fa i nlo nhi nv nst nhs nls ngs x1 x2).2.2.2.2.2.1)]) := (congrFun eg2 nd).trans ((va_up_ne _ _ ne_nd_out).trans hg_nd)
    have hg_ob : g2 ob = .inr (2, [.ref arr, .int made, .int ((fX2_rest made mvs twi tna fa i nlo nhi nv nst nhs nls ngs x1 x2).2.2.2.2.2.2), .long twi, .int tna]) := (congrFun eg2 ob).trans ((va_up_ne _ _ ne_ob_out).trans hg_ob)
    have hr8 : ∀ q : Nat, q ≠ nd → q ≠ ob → q ≠ out → g2 q = g q := fun q h_nd h_ob h_out => (congrFun eg2 q).trans ((va_up_ne _ _ h_out).trans (hr9 q h_nd h_ob))
    refine lv_goto (tgt := 20) hx hb dL_rest_9 (by decide) ?_
    refine lv_iconst (v := 0) hx hb dL_rest_20 (by decide) ?_
    exact W.widen (k := 2) (n := 12) (Nat.le_of_ble_eq_true rfl) (Nat.le_of_ble_eq_true rfl) (W.iret hx hb hr (fun t ht hW => ⟨by rw [hc0]; rfl, ⟨g2, WM hP hK hD hKC0 hTC hS ht hW.alike, ⟨fun _ => ⟨hg_nd, hg_ob, hg_out, hr8⟩, fun z => absurd hc0 z⟩⟩, hS.F ht⟩) (fun q h => hS.2.2 q h) dL_rest_21)
theorem hd_L_read : yL_read.cls ≠ "java/lang/invoke/MethodHandle" ∧ yL_read.cls ≠ "java/lang/invoke/VarHandle" ∧ (parseMethodDescriptor yL_read.desc).map (fun d => d.parameters.length) = some 4 := by decide +kernel
set_option maxHeartbeats 1000000 in
set_option maxRecDepth 100000 in
theorem c_L_read_no (l : Launch) (hfl : l.stackTraces = false) {cyJ : ClassId} {cyN : ClassId} (D : va_G) (tys : List (ClassId × FieldType)) (ad : Nat → Nat) (L : List Nat) (g : Nat → va_E) (ob arr out : Nat) (made : Int32) (mvs : Int32) (twi : Int64) (tna : Int32) (fa : Nat → Option Nat) (x1 : Int32) (x2 : Int32) (fo : Nat → Int64) (hL_ob : ob ∈ L) (hL_arr : arr ∈ L) (hg_ob : g ob = .inr (2, [.ref arr, .int made, .int mvs, .long twi, .int tna])) (hg_arr : g arr = .inl (cyN, 8, .inr (.inr (.inr (.inr fa))))) (htN : tys[2]? = some (cyN, .object RX1)) (hab : ¬ vp_in x1 8 ∨ fa x1.toNatClampNeg = none) (hL_out : out ∈ L) (hg_out : g out = .inl (cyJ, 1, .inr (.inl fo))) (htJ : tys[0]? = some (cyJ, .long)) : Met l yL_read wsL_read ({ frames := 8, cells := 1, slots := 6, locals := 127 }) (PW D tys ad L g [.ref ob, .int x1, .int x2, .ref out]) (QE D tys ad L (some (.int (nI (1)))) (fun g1 => ∀ q : Nat, g1 q = g q)) 1 6 (fun q => q ∈ L) := by
  refine va_MetW (cc := cL_read) (maxL := 5) (ret := some .int) (hh := [(0, 9, 12, 21), (0, 9, 16, 13)]) (by decide) rfl ?_
  intro p e s m args below meth c s₁ B hml hv
  obtain ⟨rfl, ⟨hP, hK, hD0, hKC0, hTC⟩, hXN⟩ := hv
  have hD : va_D (fun q => q ∈ L) (va_pl L g) := we_D (fun _ h => h) hD0
  have hKC : KC ad (fun q => q ∈ L) s s.heap := hKC0.narrow (fun _ h => Or.inl h)
  have hS : va_S (fun q => q ∈ L) s.heap s.heap [] := va_S.rf
  have hx := B.exec
  have hb := B.bytes
  have hr := B.returns
  have hts := atoms_spec (ws := wsL_read) B.pre
  have hown : s.vm.findClass RL = some m.cls := findClass_of_methodNamed B.named
  have hlocks := B.notSynchronized
  have hT := vx_table (x := yL_read) B (hts _ List.mem_cons_self)
  have hl := lv_entry ([.ref ob, .int x1, .int x2, .ref out]) (n := 5) (Nat.le_of_ble_eq_true rfl)
  rw [lg_entry_eq]
  generalize (lg_sl ([.ref ob, .int x1, .int x2, .ref out]) ++ List.replicate (5 - (lg_sl ([.ref ob, .int x1, .int x2, .ref out])).length) Slot.unset).toArray = ls at hl ⊢
  have hl : lv_has ls 5 [(0, .ref ob), (1, .int x1), (2, .int x2), (3, .ref out)] := hl
  refine lv_aload_n hx hb dL_read_0 rfl (lv_at hl 3 rfl) ?_
  refine lv_iconst (v := 0) hx hb dL_read_1 (by decide) ?_
  refine lv_aload_n hx hb dL_read_2 rfl (lv_at hl 0 rfl) ?_
  refine lv_iload_n hx hb dL_read_3 rfl (lv_at hl 1 rfl) ?_
  refine lv_iload_n hx hb dL_read_4 rfl (lv_at hl 2 rfl) ?_
  refine hr_V (b := ob) (As := [.int x1, .int x2]) (rest := [.int (0 : Int32), .ref out]) ⟨hx, hb, hml, hown, hts⟩ (c_X2_read_no l hfl D tys ad L g ob arr made mvs twi tna fa x1 x2 hL_ob hL_arr hg_ob hg_arr htN hab) (cwV 2 hts gL_read_X2_read rfl rfl rfl hd_X2_read ⟨Nat.le_of_ble_eq_true rfl, Nat.le_of_ble_eq_true rfl⟩) (pg_recv hK hP hL_ob hg_ob rfl) (fun U hU hvm => WM hP hK hD hKC0 hTC hS hU hvm) hXN hS (fun _ h => h) rfl hl.1 rfl (lv_room (Nat.le_of_ble_eq_true rfl)) dL_read_5 ⟨Nat.le_of_ble_eq_true rfl, Nat.le_of_ble_eq_true rfl⟩ (fun E ce q9 H locs hxe hP hD hS hce hcv hcl => ?_) (fun hc0 => ?_)
  · rcases hxe with ⟨hc, rfl⟩ | ⟨hc, rfl⟩ | ⟨hc, rfl⟩
    · refine vx_catch (own := RL) (name := "java/util/NoSuchElementException") (E := nsN) hown [] ⟨0, 9, 12, 21⟩ [⟨0, 9, 16, 13⟩] (hT.trans rfl) (fun _ h => nomatch h) (by decide) (by decide) (hts (.classLink RL 21 "java/util/NoSuchElementException") (by decide +kernel)) (nw_use (w := .castable "java/util/NoSuchElementException" "java/util/NoSuchElementException") rfl (hXN.2 _ (by decide +kernel))) hce hcv hcl ?_
      refine lv_astore (lv' := [(4, .ref q9), (0, .ref ob), (1, .int x1), (2, .int x2), (3, .ref out)]) hx hb dL_read_12 hl (by decide) rfl (fun ls hl => ?_)
      refine lv_iconst (v := 1) hx hb dL_read_14 (by decide) ?_
      exact W.widen (k := 1) (n := 6) (Nat.le_of_ble_eq_true rfl) (Nat.le_of_ble_eq_true rfl) (W.iret hx hb hr (fun t ht hW => ⟨rfl, ⟨g, WM hP hK hD hKC0 hTC hS ht hW.alike, fun _ => rfl⟩, hS.F ht⟩) (fun q h => hS.2.2 q h) dL_read_15)
    · exact absurd hc (by decide)
    · exact absurd hc (by decide)
  · exact absurd hc0 (by decide)
theorem nc3_X2_read (made : Int32) (mvs : Int32) (twi : Int64) (tna : Int32) (fa : Nat → Option Nat) (i : Nat) (nlo : Int64) (nhi : Int64) (nv : Int64) (nst : Int64) (nhs : Int64) (nls : Int64) (ngs : Int64) (x1 : Int32) (x2 : Int32) : ¬ (fX2_read made mvs twi tna fa i nlo nhi nv nst nhs nls ngs x1 x2).1 = 3 := by
  unfold fX2_read
  try dsimp only
  repeat' split
  all_goals first | (simp; done) | (have h9 := nf_code i x2; simp only []; omega) | omega
set_option maxHeartbeats 1000000 in
set_option maxRecDepth 100000 in
theorem c_L_read (l : Launch) (hfl : l.stackTraces = false) {cyJ : ClassId} {cyN : ClassId} (D : va_G) (tys : List (ClassId × FieldType)) (ad : Nat → Nat) (L : List Nat) (g : Nat → va_E) (ob arr nd out : Nat) (made : Int32) (mvs : Int32) (twi : Int64) (tna : Int32) (fa : Nat → Option Nat) (i : Nat) (nlo : Int64) (nhi : Int64) (nv : Int64) (nst : Int64) (nhs : Int64) (nls : Int64) (ngs : Int64) (x1 : Int32) (x2 : Int32) (fo : Nat → Int64) (hi : i < 2) (hL_ob : ob ∈ L) (hL_arr : arr ∈ L) (hL_nd : nd ∈ L) (hg_ob : g ob = .inr (2, [.ref arr, .int made, .int mvs, .long twi, .int tna])) (hg_arr : g arr = .inl (cyN, 8, .inr (.inr (.inr (.inr fa))))) (hg_nd : g nd = .inr (1, [.ref (ad i), .long nlo, .long nhi, .long nv, .long nst, .long nhs, .long nls, .long ngs])) (htN : tys[2]? = some (cyN, .object RX1)) (hia : vp_in x1 8) (hfa : fa x1.toNatClampNeg = some nd) (hL_out : out ∈ L) (hg_out : g out = .inl (cyJ, 1, .inr (.inl fo))) (htJ : tys[0]? = some (cyJ, .long)) : Met l yL_read wsL_read ({ frames := 8, cells := 2, slots := 12, locals := 127 }) (PW D tys ad L g [.ref ob, .int x1, .int x2, .ref out]) (QE D tys ad L (some (.int (nI (((fX2_read made mvs twi tna fa i nlo nhi nv nst nhs nls ngs x1 x2).1))))) (fun g1 => (((fX2_read made mvs twi tna fa i nlo nhi nv nst nhs nls ngs x1 x2).1) = 0 → g1 out = .inl (cyJ, 1, .inr (.inl (vp_updL fo (0 : Int32).toNatClampNeg ((fX2_read made mvs twi tna fa i nlo nhi nv nst nhs nls ngs x1 x2).2)))) ∧ ∀ q : Nat, q ≠ out → g1 q = g q) ∧ (¬ ((fX2_read made mvs twi tna fa i nlo nhi nv nst nhs nls ngs x1 x2).1) = 0 → ∀ q : Nat, g1 q = g q))) 2 12 (fun q => q ∈ L) := by
  refine va_MetW (cc := cL_read) (maxL := 5) (ret := some .int) (hh := [(0, 9, 12, 21), (0, 9, 16, 13)]) (by decide) rfl ?_
  intro p e s m args below meth c s₁ B hml hv
  obtain ⟨rfl, ⟨hP, hK, hD0, hKC0, hTC⟩, hXN⟩ := hv
  have hD : va_D (fun q => q ∈ L) (va_pl L g) := we_D (fun _ h => h) hD0
  have hKC : KC ad (fun q => q ∈ L) s s.heap := hKC0.narrow (fun _ h => Or.inl h)
  have hS : va_S (fun q => q ∈ L) s.heap s.heap [] := va_S.rf
  have hx := B.exec
  have hb := B.bytes
  have hr := B.returns
  have hts := atoms_spec (ws := wsL_read) B.pre
  have hown : s.vm.findClass RL = some m.cls := findClass_of_methodNamed B.named
  have hlocks := B.notSynchronized
  have hT := vx_table (x := yL_read) B (hts _ List.mem_cons_self)
  have hl := lv_entry ([.ref ob, .int x1, .int x2, .ref out]) (n := 5) (Nat.le_of_ble_eq_true rfl)
  rw [lg_entry_eq]
  generalize (lg_sl ([.ref ob, .int x1, .int x2, .ref out]) ++ List.replicate (5 - (lg_sl ([.ref ob, .int x1, .int x2, .ref out])).length) Slot.unset).toArray = ls at hl ⊢
  have hl : lv_has ls 5 [(0, .ref ob), (1, .int x1), (2, .int x2), (3, .ref out)] := hl
  refine lv_aload_n hx hb dL_read_0 rfl (lv_at hl 3 rfl) ?_
  refine lv_iconst (v := 0) hx hb dL_read_1 (by decide) ?_
  refine lv_aload_n hx hb dL_read_2 rfl (lv_at hl 0 rfl) ?_
  refine lv_iload_n hx hb dL_read_3 rfl (lv_at hl 1 rfl) ?_
  refine lv_iload_n hx hb dL_read_4 rfl (lv_at hl 2 rfl) ?_
  refine hr_V (b := ob) (As := [.int x1, .int x2]) (rest := [.int (0 : Int32), .ref out]) ⟨hx, hb, hml, hown, hts⟩ (c_X2_read l hfl D tys ad L g ob arr nd made mvs twi tna fa i nlo nhi nv nst nhs nls ngs x1 x2 hi hL_ob hL_arr hL_nd hg_ob hg_arr hg_nd htN hia hfa) (cwV 2 hts gL_read_X2_read rfl rfl rfl hd_X2_read ⟨Nat.le_of_ble_eq_true rfl, Nat.le_of_ble_eq_true rfl⟩) (pg_recv hK hP hL_ob hg_ob rfl) (fun U hU hvm => WM hP hK hD hKC0 hTC hS hU hvm) hXN hS (fun _ h => h) rfl hl.1 rfl (lv_room (Nat.le_of_ble_eq_true rfl)) dL_read_5 ⟨Nat.le_of_ble_eq_true rfl, Nat.le_of_ble_eq_true rfl⟩ (fun E ce q9 H locs hxe hP hD hS hce hcv hcl => ?_) (fun hc0 => ?_)
  · rcases hxe with ⟨hc, rfl⟩ | ⟨hc, rfl⟩ | ⟨hc, rfl⟩
    · refine vx_catch (own := RL) (name := "java/util/NoSuchElementException") (E := nsN) hown [] ⟨0, 9, 12, 21⟩ [⟨0, 9, 16, 13⟩] (hT.trans rfl) (fun _ h => nomatch h) (by decide) (by decide) (hts (.classLink RL 21 "java/util/NoSuchElementException") (by decide +kernel)) (nw_use (w := .castable "java/util/NoSuchElementException" "java/util/NoSuchElementException") rfl (hXN.2 _ (by decide +kernel))) hce hcv hcl ?_
      refine lv_astore (lv' := [(4, .ref q9), (0, .ref ob), (1, .int x1), (2, .int x2), (3, .ref out)]) hx hb dL_read_12 hl (by decide) rfl (fun ls hl => ?_)
      refine lv_iconst (v := 1) hx hb dL_read_14 (by decide) ?_
      exact W.widen (k := 2) (n := 12) (Nat.le_of_ble_eq_true rfl) (Nat.le_of_ble_eq_true rfl) (W.iret hx hb hr (fun t ht hW => ⟨by rw [hc]; rfl, ⟨g, WM hP hK hD hKC0 hTC hS ht hW.alike, ⟨fun z => absurd z (by rw [hc]; decide), fun _ _ => rfl⟩⟩, hS.F ht⟩) (fun q h => hS.2.2 q h) dL_read_15)
    · refine vx_catch (own := RL) (name := "java/lang/IllegalArgumentException") (E := ieN) hown [⟨0, 9, 12, 21⟩] ⟨0, 9, 16, 13⟩ [] (hT.trans rfl) (fun z hz => by simp only [List.mem_cons, List.not_mem_nil, or_false] at hz; rcases hz with rfl; exact Or.inr ⟨by decide, "java/util/NoSuchElementException", hts (.classLink RL 21 "java/util/NoSuchElementException") (by decide +kernel), hXN.1.2 ("java/lang/IllegalArgumentException", "java/util/NoSuchElementException") (by decide +kernel)⟩) (by decide) (by decide) (hts (.classLink RL 13 "java/lang/IllegalArgumentException") (by decide +kernel)) (nw_use (w := .castable "java/lang/IllegalArgumentException" "java/lang/IllegalArgumentException") rfl (hXN.2 _ (by decide +kernel))) hce hcv hcl ?_
      refine lv_astore (lv' := [(4, .ref q9), (0, .ref ob), (1, .int x1), (2, .int x2), (3, .ref out)]) hx hb dL_read_16 hl (by decide) rfl (fun ls hl => ?_)
      refine lv_iconst (v := 2) hx hb dL_read_18 (by decide) ?_
      exact W.widen (k := 2) (n := 12) (Nat.le_of_ble_eq_true rfl) (Nat.le_of_ble_eq_true rfl) (W.iret hx hb hr (fun t ht hW => ⟨by rw [hc]; rfl, ⟨g, WM hP hK hD hKC0 hTC hS ht hW.alike, ⟨fun z => absurd z (by rw [hc]; decide), fun _ _ => rfl⟩⟩, hS.F ht⟩) (fun q h => hS.2.2 q h) dL_read_19)
    · exact absurd hc (nc3_X2_read _ _ _ _ _ _ _ _ _ _ _ _ _ _ _)
  · refine W.eq (g2 := F0 m 8 ls [.long ((fX2_read made mvs twi tna fa i nlo nhi nv nst nhs nls ngs x1 x2).2), .int (0 : Int32), .ref out]) rfl ?_
    have hr9 : ∀ q : Nat, g q = g q := fun _ => rfl
    refine pg_last hx hb hK hP hD hS 0 hL_out hg_out htJ (by unfold vp_in; decide) dL_read_8 (fun H locs hP hD hS => ?_)
    obtain ⟨g1, eg1⟩ : ∃ z : Nat → va_E, z = va_up g out (.inl (cyJ, 1, .inr (.inl (vp_updL fo (0 : Int32).toNatClampNeg ((fX2_read made mvs twi tna fa i nlo nhi nv nst nhs nls ngs x1 x2).2))))) := ⟨_, rfl⟩
    have hP : va_P D vwCl (va_pl L g1) H := by rw [eg1]; exact hP
    have hD : va_D (fun q => q ∈ L) (va_pl L g1) := by rw [eg1]; exact hD
    have hg_out : g1 out = .inl (cyJ, 1, .inr (.inl (vp_updL fo (0 : Int32).toNatClampNeg ((fX2_read made mvs twi tna fa i nlo nhi nv nst nhs nls ngs x1 x2).2)))) := by rw [eg1]; exact va_up_self _ _ _
    have hr8 : ∀ q : Nat, q ≠ out → g1 q = g q := fun q h_out => (congrFun eg1 q).trans ((va_up_ne _ _ h_out).trans (hr9 q ))
    refine lv_goto (tgt := 20) hx hb dL_read_9 (by decide) ?_
    refine lv_iconst (v := 0) hx hb dL_read_20 (by decide) ?_
    exact W.widen (k := 2) (n := 12) (Nat.le_of_ble_eq_true rfl) (Nat.le_of_ble_eq_true rfl) (W.iret hx hb hr (fun t ht hW => ⟨by rw [hc0]; rfl, ⟨g1, WM hP hK hD hKC0 hTC hS ht hW.alike, ⟨fun _ => ⟨hg_out, hr8⟩, fun z => absurd hc0 z⟩⟩, hS.F ht⟩) (fun q h => hS.2.2 q h) dL_read_21)
theorem hd_L_back : yL_back.cls ≠ "java/lang/invoke/MethodHandle" ∧ yL_back.cls ≠ "java/lang/invoke/VarHandle" ∧ (parseMethodDescriptor yL_back.desc).map (fun d => d.parameters.length) = some 2 := by decide +kernel
set_option maxHeartbeats 1000000 in
set_option maxRecDepth 100000 in
theorem c_L_back_no (l : Launch) (hfl : l.stackTraces = false) {cyN : ClassId} (D : va_G) (tys : List (ClassId × FieldType)) (ad : Nat → Nat) (L : List Nat) (g : Nat → va_E) (ob arr : Nat) (made : Int32) (mvs : Int32) (twi : Int64) (tna : Int32) (fa : Nat → Option Nat) (x1 : Int32) (hL_ob : ob ∈ L) (hL_arr : arr ∈ L) (hg_ob : g ob = .inr (2, [.ref arr, .int made, .int mvs, .long twi, .int tna])) (hg_arr : g arr = .inl (cyN, 8, .inr (.inr (.inr (.inr fa))))) (htN : tys[2]? = some (cyN, .object RX1)) (hab : ¬ vp_in x1 8 ∨ fa x1.toNatClampNeg = none) : Met l yL_back wsL_back ({ frames := 8, cells := 1, slots := 6, locals := 125 }) (PW D tys ad L g [.ref ob, .int x1]) (QE D tys ad L (some (.int (nI (1)))) (fun g1 => ∀ q : Nat, g1 q = g q)) 1 6 (fun q => q ∈ L) := by
  refine va_MetW (cc := cL_back) (maxL := 3) (ret := some .int) (hh := [(0, 5, 8, 21)]) (by decide) rfl ?_
  intro p e s m args below meth c s₁ B hml hv
  obtain ⟨rfl, ⟨hP, hK, hD0, hKC0, hTC⟩, hXN⟩ := hv
  have hD : va_D (fun q => q ∈ L) (va_pl L g) := we_D (fun _ h => h) hD0
  have hKC : KC ad (fun q => q ∈ L) s s.heap := hKC0.narrow (fun _ h => Or.inl h)
  have hS : va_S (fun q => q ∈ L) s.heap s.heap [] := va_S.rf
  have hx := B.exec
  have hb := B.bytes
  have hr := B.returns
  have hts := atoms_spec (ws := wsL_back) B.pre
  have hown : s.vm.findClass RL = some m.cls := findClass_of_methodNamed B.named
  have hlocks := B.notSynchronized
  have hT := vx_table (x := yL_back) B (hts _ List.mem_cons_self)
  have hl := lv_entry ([.ref ob, .int x1]) (n := 3) (Nat.le_of_ble_eq_true rfl)
  rw [lg_entry_eq]
  generalize (lg_sl ([.ref ob, .int x1]) ++ List.replicate (3 - (lg_sl ([.ref ob, .int x1])).length) Slot.unset).toArray = ls at hl ⊢
  have hl : lv_has ls 3 [(0, .ref ob), (1, .int x1)] := hl
  refine lv_aload_n hx hb dL_back_0 rfl (lv_at hl 0 rfl) ?_
  refine lv_iload_n hx hb dL_back_1 rfl (lv_at hl 1 rfl) ?_
  refine hr_V (b := ob) (As := [.int x1]) (rest := []) ⟨hx, hb, hml, hown, hts⟩ (c_X2_back_no l hfl D tys ad L g ob arr made mvs twi tna fa x1 hL_ob hL_arr hg_ob hg_arr htN hab) (cwV 1 hts gL_back_X2_back rfl rfl rfl hd_X2_back ⟨Nat.le_of_ble_eq_true rfl, Nat.le_of_ble_eq_true rfl⟩) (pg_recv hK hP hL_ob hg_ob rfl) (fun U hU hvm => WM hP hK hD hKC0 hTC hS hU hvm) hXN hS (fun _ h => h) rfl hl.1 rfl (lv_room (Nat.le_of_ble_eq_true rfl)) dL_back_2 ⟨Nat.le_of_ble_eq_true rfl, Nat.le_of_ble_eq_true rfl⟩ (fun E ce q9 H locs hxe hP hD hS hce hcv hcl => ?_) (fun hc0 => ?_)
  · rcases hxe with ⟨hc, rfl⟩ | ⟨hc, rfl⟩ | ⟨hc, rfl⟩
    · refine vx_catch (own := RL) (name := "java/util/NoSuchElementException") (E := nsN) hown [] ⟨0, 5, 8, 21⟩ [] (hT.trans rfl) (fun _ h => nomatch h) (by decide) (by decide) (hts (.classLink RL 21 "java/util/NoSuchElementException") (by decide +kernel)) (nw_use (w := .castable "java/util/NoSuchElementException" "java/util/NoSuchElementException") rfl (hXN.2 _ (by decide +kernel))) hce hcv hcl ?_
      refine lv_astore_n (lv' := [(2, .ref q9), (0, .ref ob), (1, .int x1)]) hx hb dL_back_8 rfl hl (by decide) rfl (fun ls hl => ?_)
      refine lv_iconst (v := 1) hx hb dL_back_9 (by decide) ?_
      exact W.widen (k := 1) (n := 6) (Nat.le_of_ble_eq_true rfl) (Nat.le_of_ble_eq_true rfl) (W.iret hx hb hr (fun t ht hW => ⟨rfl, ⟨g, WM hP hK hD hKC0 hTC hS ht hW.alike, fun _ => rfl⟩, hS.F ht⟩) (fun q h => hS.2.2 q h) dL_back_10)
    · exact absurd hc (by decide)
    · exact absurd hc (by decide)
  · exact absurd hc0 (by decide)
theorem nc2_X2_back (made : Int32) (mvs : Int32) (twi : Int64) (tna : Int32) (fa : Nat → Option Nat) (i : Nat) (nlo : Int64) (nhi : Int64) (nv : Int64) (nst : Int64) (nhs : Int64) (nls : Int64) (ngs : Int64) (x1 : Int32) : ¬ (fX2_back made mvs twi tna fa i nlo nhi nv nst nhs nls ngs x1).1 = 2 := by
  unfold fX2_back
  try dsimp only
  repeat' split
  all_goals first | (simp; done) | (have h9 := nf_code i x2; simp only []; omega) | omega
theorem nc3_X2_back (made : Int32) (mvs : Int32) (twi : Int64) (tna : Int32) (fa : Nat → Option Nat) (i : Nat) (nlo : Int64) (nhi : Int64) (nv : Int64) (nst : Int64) (nhs : Int64) (nls : Int64) (ngs : Int64) (x1 : Int32) : ¬ (fX2_back made mvs twi tna fa i nlo nhi nv nst nhs nls ngs x1).1 = 3 := by
  unfold fX2_back
  try dsimp only
  repeat' split
  all_goals first | (simp; done) | (have h9 := nf_code i x2; simp only []; omega) | omega
set_option maxHeartbeats 1000000 in
set_option maxRecDepth 100000 in
theorem c_L_back (l : Launch) (hfl : l.stackTraces = false) {cyN : ClassId} (D : va_G) (tys : List (ClassId × FieldType)) (ad : Nat → Nat) (L : List Nat) (g : Nat → va_E) (ob arr nd : Nat) (made : Int32) (mvs : Int32) (twi : Int64) (tna : Int32) (fa : Nat → Option Nat) (i : Nat) (nlo : Int64) (nhi : Int64) (nv : Int64) (nst : Int64) (nhs : Int64) (nls : Int64) (ngs : Int64) (x1 : Int32) (hi : i < 2) (hL_ob : ob ∈ L) (hL_arr : arr ∈ L) (hL_nd : nd ∈ L) (hg_ob : g ob = .inr (2, [.ref arr, .int made, .int mvs, .long twi, .int tna])) (hg_arr : g arr = .inl (cyN, 8, .inr (.inr (.inr (.inr fa))))) (hg_nd : g nd = .inr (1, [.ref (ad i), .long nlo, .long nhi, .long nv, .long nst, .long nhs, .long nls, .long ngs])) (ne_ob_nd : ob ≠ nd) (ne_arr_nd : arr ≠ nd) (htN : tys[2]? = some (cyN, .object RX1)) (hia : vp_in x1 8) (hfa : fa x1.toNatClampNeg = some nd) : Met l yL_back wsL_back ({ frames := 8, cells := 1, slots := 6, locals := 133 }) (PW D tys ad L g [.ref ob, .int x1]) (QE D tys ad L (some (.int (nI (((fX2_back made mvs twi tna fa i nlo nhi nv nst nhs nls ngs x1).1))))) (fun g1 => (((fX2_back made mvs twi tna fa i nlo nhi nv nst nhs nls ngs x1).1) = 0 → g1 nd = .inr (1, [.ref (ad i), .long nlo, .long nhi, .long ((fX2_back made mvs twi tna fa i nlo nhi nv nst nhs nls ngs x1).2.1), .long nst, .long ((fX2_back made mvs twi tna fa i nlo nhi nv nst nhs nls ngs x1).2.2.1), .long ((fX2_back made mvs twi tna fa i nlo nhi nv nst nhs nls ngs x1).2.2.2.1), .long ((fX2_back made mvs twi tna fa i nlo nhi nv nst nhs nls ngs x1).2.2.2.2)]) ∧ ∀ q : Nat, q ≠ nd → g1 q = g q) ∧ (¬ ((fX2_back made mvs twi tna fa i nlo nhi nv nst nhs nls ngs x1).1) = 0 → ∀ q : Nat, g1 q = g q))) 1 6 (fun q => q ∈ L) := by
  refine va_MetW (cc := cL_back) (maxL := 3) (ret := some .int) (hh := [(0, 5, 8, 21)]) (by decide) rfl ?_
  intro p e s m args below meth c s₁ B hml hv
  obtain ⟨rfl, ⟨hP, hK, hD0, hKC0, hTC⟩, hXN⟩ := hv
  have hD : va_D (fun q => q ∈ L) (va_pl L g) := we_D (fun _ h => h) hD0
  have hKC : KC ad (fun q => q ∈ L) s s.heap := hKC0.narrow (fun _ h => Or.inl h)
  have hS : va_S (fun q => q ∈ L) s.heap s.heap [] := va_S.rf
  have hx := B.exec
  have hb := B.bytes
  have hr := B.returns
  have hts := atoms_spec (ws := wsL_back) B.pre
  have hown : s.vm.findClass RL = some m.cls := findClass_of_methodNamed B.named
  have hlocks := B.notSynchronized
  have hT := vx_table (x := yL_back) B (hts _ List.mem_cons_self)
  have hl := lv_entry ([.ref ob, .int x1]) (n := 3) (Nat.le_of_ble_eq_true rfl)
  rw [lg_entry_eq]
  generalize (lg_sl ([.ref ob, .int x1]) ++ List.replicate (3 - (lg_sl ([.ref ob, .int x1])).length) Slot.unset).toArray = ls at hl ⊢
  have hl : lv_has ls 3 [(0, .ref ob), (1, .int x1)] := hl
  refine lv_aload_n hx hb dL_back_0 rfl (lv_at hl 0 rfl) ?_
  refine lv_iload_n hx hb dL_back_1 rfl (lv_at hl 1 rfl) ?_
  refine hc_V (b := ob) (As := [.int x1]) (rest := []) ⟨hx, hb, hml, hown, hts⟩ (c_X2_back l hfl D tys ad L g ob arr nd made mvs twi tna fa i nlo nhi nv nst nhs nls ngs x1 hi hL_ob hL_arr hL_nd hg_ob hg_arr hg_nd ne_ob_nd ne_arr_nd htN hia hfa) (cwV 1 hts gL_back_X2_back rfl rfl rfl hd_X2_back ⟨Nat.le_of_ble_eq_true rfl, Nat.le_of_ble_eq_true rfl⟩) (pg_recv hK hP hL_ob hg_ob rfl) (fun U hU hvm => WM hP hK hD hKC0 hTC hS hU hvm) hXN hS (fun _ h => h) rfl hl.1 rfl (lv_room (Nat.le_of_ble_eq_true rfl)) dL_back_2 ⟨Nat.le_of_ble_eq_true rfl, Nat.le_of_ble_eq_true rfl⟩ (fun E ce q9 H locs hxe hP hD hS hce hcv hcl => ?_) (fun hc0 => ?_)
  · rcases hxe with ⟨hc, rfl⟩ | ⟨hc, rfl⟩ | ⟨hc, rfl⟩
    · refine vx_catch (own := RL) (name := "java/util/NoSuchElementException") (E := nsN) hown [] ⟨0, 5, 8, 21⟩ [] (hT.trans rfl) (fun _ h => nomatch h) (by decide) (by decide) (hts (.classLink RL 21 "java/util/NoSuchElementException") (by decide +kernel)) (nw_use (w := .castable "java/util/NoSuchElementException" "java/util/NoSuchElementException") rfl (hXN.2 _ (by decide +kernel))) hce hcv hcl ?_
      refine lv_astore_n (lv' := [(2, .ref q9), (0, .ref ob), (1, .int x1)]) hx hb dL_back_8 rfl hl (by decide) rfl (fun ls hl => ?_)
      refine lv_iconst (v := 1) hx hb dL_back_9 (by decide) ?_
      exact W.widen (k := 1) (n := 6) (Nat.le_of_ble_eq_true rfl) (Nat.le_of_ble_eq_true rfl) (W.iret hx hb hr (fun t ht hW => ⟨by rw [hc]; rfl, ⟨g, WM hP hK hD hKC0 hTC hS ht hW.alike, ⟨fun z => absurd z (by rw [hc]; decide), fun _ _ => rfl⟩⟩, hS.F ht⟩) (fun q h => hS.2.2 q h) dL_back_10)
    · exact absurd hc (nc2_X2_back _ _ _ _ _ _ _ _ _ _ _ _ _ _)
    · exact absurd hc (nc3_X2_back _ _ _ _ _ _ _ _ _ _ _ _ _ _)
  · intro g1 H locs hp9 hP hD hS
    refine W.eq (g2 := F0 m 5 ls []) rfl ?_
    obtain ⟨hn9_nd, hr9⟩ := hp9
    have hg_nd : g1 nd = .inr (1, [.ref (ad i), .long nlo, .long nhi, .long ((fX2_back made mvs twi tna fa i nlo nhi nv nst nhs nls ngs x1).2.1), .long nst, .long ((fX2_back made mvs twi tna fa i nlo nhi nv nst nhs nls ngs x1).2.2.1), .long ((fX2_back made mvs twi tna fa i nlo nhi nv nst nhs nls ngs x1).2.2.2.1), .long ((fX2_back made mvs twi tna fa i nlo nhi nv nst nhs nls ngs x1).2.2.2.2)]) := hn9_nd
    refine lv_goto (tgt := 11) hx hb dL_back_5 (by decide) ?_
    refine lv_iconst (v := 0) hx hb dL_back_11 (by decide) ?_
    exact W.widen (k := 1) (n := 6) (Nat.le_of_ble_eq_true rfl) (Nat.le_of_ble_eq_true rfl) (W.iret hx hb hr (fun t ht hW => ⟨by rw [hc0]; rfl, ⟨g1, WM hP hK hD hKC0 hTC hS ht hW.alike, ⟨fun _ => ⟨hg_nd, hr9⟩, fun z => absurd hc0 z⟩⟩, hS.F ht⟩) (fun q h => hS.2.2 q h) dL_back_12)
