/-! a method that adds a cell to the world -/
def PWn (D : va_G) (tys : List (ClassId × FieldType)) (ad : Nat → Nat) (L : List Nat) (g : Nat → va_E) (sz : Nat) (av : List Value) : Array Value → State → Prop := fun v U => v = av.toArray ∧ WW D tys ad L g U ∧ XN U ∧ U.heap.size = sz
theorem PWn.blind (D : va_G) (tys : List (ClassId × FieldType)) (ad : Nat → Nat) (L : List Nat) (g : Nat → va_E) (sz : Nat) (av : List Value) : FrameBlind (PWn D tys ad L g sz av) := fun a U f mk h => ⟨h.1, h.2.1.calling _ _ _, XN.warm (s := U) (U := U.calling f mk a) (State.WarmedH.refl U) h.2.2.1, h.2.2.2⟩
def QN (D : va_G) (tys : List (ClassId × FieldType)) (ad : Nat → Nat) (L : List Nat) (code : Nat) (r : Option Value) (P : Nat → (Nat → va_E) → Prop) : Array Value → State → Outcome → State → Prop := fun _ st o t => code = 0 ∧ o = .returned r ∧ (∃ (q : Nat) (g : Nat → va_E), q ∉ L ∧ st.heap.size ≤ q ∧ WW D tys ad (L ++ [q]) g t ∧ P q g) ∧ va_F (fun q => q ∈ L) st t
theorem PA.F {L : List Nat} {s t : State} {H : Heap} {locs : List Loc} (h : va_S (PA L s.heap.size) s.heap H locs) (ht : t.heap = H) : va_F (fun q => q ∈ L) s t :=
  ⟨by rw [ht]; exact h.1, fun q h1 h2 => by rw [ht]; exact h.2.1 q h1 (fun z => z.elim h2 (fun z => Nat.not_lt.mpr z h1))⟩
def fX2_needle (i : Nat) (made : Int32) (x2 x3 : Int64) : Nat :=
  if (fX2_numberFrom i x2).1 = 0 then
    if (fX2_numberFrom i x3).1 = 0 then
      if (fX0_isBelow i ((fX2_numberFrom i x3).2) ((fX2_numberFrom i x2).2)) = 0 then
        if made < 8 then 0 else 3
      else 2
    else (fX2_numberFrom i x3).1
  else (fX2_numberFrom i x2).1
theorem hd_X2_needle : yX2_needle.cls = RX2 ∧ yX2_needle.cls ≠ "java/lang/invoke/MethodHandle" ∧ yX2_needle.cls ≠ "java/lang/invoke/VarHandle" ∧ (parseMethodDescriptor yX2_needle.desc).map (fun d => d.parameters.length) = some 3 := by decide +kernel
theorem hin_X1_X2_needle : ∀ w ∈ wsX10, w ∈ wsX2_needle := by decide +kernel
theorem hin_X2_X2_needle : ∀ w ∈ wsX20, w ∈ wsX2_needle := by decide +kernel
theorem hgA_X2_needle : ∀ w ∈ (vx_atS RX2 36 "java/lang/IllegalArgumentException" ["java/lang/RuntimeException", "java/lang/Exception"]).filter goodWord, w ∈ wsX2_needle := by
  intro w h
  simp only [wsX2_needle, List.mem_cons, List.mem_append]
  simp only [h, or_true, true_or]
theorem hgS_X2_needle : ∀ w ∈ (vx_atS RX2 47 "java/lang/IllegalStateException" ["java/lang/RuntimeException", "java/lang/Exception"]).filter goodWord, w ∈ wsX2_needle := by
  intro w h
  simp only [wsX2_needle, List.mem_cons, List.mem_append]
  simp only [h, or_true, true_or]
set_option maxHeartbeats 1000000 in
set_option maxRecDepth 100000 in
theorem c_X2_needle (l : Launch) (hfl : l.stackTraces = false) {cyN : ClassId} (D : va_G) (tys : List (ClassId × FieldType)) (ad : Nat → Nat) (L : List Nat) (g : Nat → va_E) (sz : Nat) (ob arr : Nat) (made : Int32) (mvs : Int32) (twi : Int64) (tna : Int32) (fa : Nat → Option Nat) (i : Nat) (x1 : Int32) (x2 x3 : Int64) (hi : i < 2) (hix : i = if x1 = 0 then 1 else 0) (hL_ob : ob ∈ L) (hL_arr : arr ∈ L) (hg_ob : g ob = .inr (2, [.ref arr, .int made, .int mvs, .long twi, .int tna])) (hg_arr : g arr = .inl (cyN, 8, .inr (.inr (.inr (.inr fa))))) (ne_arr_ob : arr ≠ ob) (htN : tys[2]? = some (cyN, .object RX1)) (hmd : made < 8 → vp_in made 8) :
    vx_Met l yX2_needle wsX2_needle ({ frames := 8, cells := 3, slots := 20, locals := 160 }) (PWn D tys ad L g sz [.ref ob, .int x1, .long x2, .long x3]) (QN D tys ad L (fX2_needle i made x2 x3) (some (.int (made + 1 - 1))) (fun q g1 => g1 q = .inr (1, [.ref (ad i), .long ((fX2_numberFrom i x2).2), .long ((fX2_numberFrom i x3).2), .long ((fX1_startAgain i ((fX2_numberFrom i x2).2) ((fX2_numberFrom i x3).2) 0 (kInf i) 0 0 0).1), .long (kInf i), .long ((fX1_startAgain i ((fX2_numberFrom i x2).2) ((fX2_numberFrom i x3).2) 0 (kInf i) 0 0 0).2.1), .long ((fX1_startAgain i ((fX2_numberFrom i x2).2) ((fX2_numberFrom i x3).2) 0 (kInf i) 0 0 0).2.2.1), .long ((fX1_startAgain i ((fX2_numberFrom i x2).2) ((fX2_numberFrom i x3).2) 0 (kInf i) 0 0 0).2.2.2)]) ∧ g1 ob = .inr (2, [.ref arr, .int (made + 1), .int mvs, .long twi, .int tna]) ∧ g1 arr = .inl (cyN, 8, .inr (.inr (.inr (.inr (va_up fa made.toNatClampNeg (some q)))))) ∧ ∀ q' : Nat, q' ≠ q → q' ≠ ob → q' ≠ arr → g1 q' = g q')) (XW D tys ad L g (fX2_needle i made x2 x3)) 3 20 (PA L sz) := by
  refine vx_ofW (cc := cX2_needle) (maxL := 11) (ret := (some .int)) (by decide) rfl ?_
  intro p e s m args below meth c s₁ B hml hout hv
  obtain ⟨rfl, ⟨hP, hK, hD0, hKC0, hTC⟩, hXN, rfl⟩ := hv
  have hP0 := hP
  have hD : va_D (fun q => q ∈ L) (va_pl L g) := we_D (fun _ h => h) hD0
  have hKC : KC ad (fun q => q ∈ L) s s.heap := hKC0.narrow (fun _ h => Or.inl h)
  have hS : va_S (fun q => q ∈ L) s.heap s.heap [] := va_S.rf
  have hx := B.exec
  have hb := B.bytes
  have hr := B.returns
  have hts := atoms_spec (ws := wsX2_needle) B.pre
  have hown : s.vm.findClass RX2 = some m.cls := findClass_of_methodNamed B.named
  have hlocks := B.notSynchronized
  have hl := lv_entry ([.ref ob, .int x1, .long x2, .long x3]) (n := 11) (Nat.le_of_ble_eq_true rfl)
  rw [lg_entry_eq]
  generalize (lg_sl ([.ref ob, .int x1, .long x2, .long x3]) ++ List.replicate (11 - (lg_sl ([.ref ob, .int x1, .long x2, .long x3])).length) Slot.unset).toArray = ls at hl ⊢
  have hl : lv_has ls 11 [(0, .ref ob), (1, .int x1), (2, .long x2), (4, .long x3)] := hl
  refine lv_iload_n hx hb dX2_needle_0 rfl (lv_at hl 1 rfl) ?_
  suffices main : W p l e (headSpec wsX2_needle _).room s m _ below meth c s.heap [] 0 0 _ (F0 m 13 ls [.ref (ad i)]) by
    refine lv_if_eq (tgt := 10) hx hb dX2_needle_1 (by decide) (fun c_0 => ?_) (fun c_0 => ?_)
    · refine pk_coarse hx hb hKC hS hown (hts (.fieldLink RX2 21 RX0 "COARSE" "LNeedleBoard$Kind;") (by decide +kernel)) dX2_needle_10 ?_
      exact W.eq (g2 := F0 m 13 ls [.ref (ad i)]) (by rw [hix, if_pos c_0]) main
    · refine pk_fine hx hb hKC hS hown (hts (.fieldLink RX2 15 RX0 "FINE" "LNeedleBoard$Kind;") (by decide +kernel)) dX2_needle_4 ?_
      refine lv_goto (tgt := 13) hx hb dX2_needle_7 (by decide) ?_
      exact W.eq (g2 := F0 m 13 ls [.ref (ad i)]) (by rw [hix, if_neg c_0]) main
  refine lv_astore (lv' := [(6, .ref (ad i)), (0, .ref ob), (1, .int x1), (2, .long x2), (4, .long x3)]) hx hb dX2_needle_13 hl (by decide) rfl (fun ls hl => ?_)
  refine lv_aload hx hb dX2_needle_15 (lv_at hl 0 rfl) ?_
  refine lv_lload_n hx hb dX2_needle_17 rfl (lv_at hl 3 rfl) ?_
  refine xp_S (As := [.ref (ad i), .long x2]) (rest := []) ⟨hx, hb, hml, hown, hts⟩ (c_X2_numberFrom l hfl D tys ad L g i x2 hi) (va_cwS 2 hts gX2_needle_X2_numberFrom rfl rfl rfl hd_X2_numberFrom ⟨(Nat.le_of_ble_eq_true rfl), (Nat.le_of_ble_eq_true rfl)⟩) (fun U hU hvm => WM hP hK hD hKC0 hTC hS hU hvm) hXN rfl hl.1 rfl (lv_room (Nat.le_of_ble_eq_true rfl)) dX2_needle_18 ⟨(Nat.le_of_ble_eq_true rfl), (Nat.le_of_ble_eq_true rfl)⟩ hout hlocks (fun c_1 => by unfold fX2_needle; rw [if_neg c_1]) (Nat.le_of_ble_eq_true rfl) (Nat.le_of_ble_eq_true rfl) (fun c_1 => ?_)
  refine W.eq (g2 := F0 m 21 ls [.long ((fX2_numberFrom i x2).2)]) rfl ?_
  refine lv_lstore (lv' := [(7, .long ((fX2_numberFrom i x2).2)), (6, .ref (ad i)), (0, .ref ob), (1, .int x1), (2, .long x2), (4, .long x3)]) hx hb dX2_needle_21 hl (by decide) rfl (fun ls hl => ?_)
  refine lv_aload hx hb dX2_needle_23 (lv_at hl 1 rfl) ?_
  refine lv_lload hx hb dX2_needle_25 (lv_at hl 5 rfl) ?_
  refine xp_S (As := [.ref (ad i), .long x3]) (rest := []) ⟨hx, hb, hml, hown, hts⟩ (c_X2_numberFrom l hfl D tys ad L g i x3 hi) (va_cwS 2 hts gX2_needle_X2_numberFrom rfl rfl rfl hd_X2_numberFrom ⟨(Nat.le_of_ble_eq_true rfl), (Nat.le_of_ble_eq_true rfl)⟩) (fun U hU hvm => WM hP hK hD hKC0 hTC hS hU hvm) hXN rfl hl.1 rfl (lv_room (Nat.le_of_ble_eq_true rfl)) dX2_needle_27 ⟨(Nat.le_of_ble_eq_true rfl), (Nat.le_of_ble_eq_true rfl)⟩ hout hlocks (fun c_2 => by unfold fX2_needle; rw [if_pos c_1, if_neg c_2]) (Nat.le_of_ble_eq_true rfl) (Nat.le_of_ble_eq_true rfl) (fun c_2 => ?_)
  refine W.eq (g2 := F0 m 30 ls [.long ((fX2_numberFrom i x3).2)]) rfl ?_
  refine lv_lstore (lv' := [(9, .long ((fX2_numberFrom i x3).2)), (7, .long ((fX2_numberFrom i x2).2)), (6, .ref (ad i)), (0, .ref ob), (1, .int x1), (2, .long x2), (4, .long x3)]) hx hb dX2_needle_30 hl (by decide) rfl (fun ls hl => ?_)
  refine lv_aload hx hb dX2_needle_32 (lv_at hl 2 rfl) ?_
  refine lv_lload hx hb dX2_needle_34 (lv_at hl 0 rfl) ?_
  refine lv_lload hx hb dX2_needle_36 (lv_at hl 1 rfl) ?_
  refine pc_V (i := i) (As := [.long ((fX2_numberFrom i x3).2), .long ((fX2_numberFrom i x2).2)]) (rest := []) (r := .int (fX0_isBelow i ((fX2_numberFrom i x3).2) ((fX2_numberFrom i x2).2))) ⟨hx, hb, hml, hown, hts⟩ (c_X0_isBelow l ad i hi ((fX2_numberFrom i x3).2) ((fX2_numberFrom i x2).2)) (cwV 2 hts gX2_needle_X0_isBelow rfl rfl rfl hd_X0_isBelow ⟨(Nat.le_of_ble_eq_true rfl), (Nat.le_of_ble_eq_true rfl)⟩) hKC hS hi rfl hl.1 rfl (lv_room (Nat.le_of_ble_eq_true rfl)) dX2_needle_38 ⟨(Nat.le_of_ble_eq_true rfl), (Nat.le_of_ble_eq_true rfl)⟩ ?_
  refine lv_if_eq (tgt := 54) hx hb dX2_needle_41 (by decide) (fun c_3 => ?_) (fun c_3 => ?_)
  · refine lv_aload_n hx hb dX2_needle_54 rfl (lv_at hl 3 rfl) ?_
    refine pg_get hx hb hts hin_X2_X2_needle hown hK hP hL_ob hg_ob rfl 1 (by decide) (hts (.fieldLink RX2 39 "NeedleBoard" "made" "I") (by decide +kernel)) rfl dX2_needle_55 ?_
    refine lv_aload_n hx hb dX2_needle_58 rfl (lv_at hl 3 rfl) ?_
    refine pg_get hx hb hts hin_X2_X2_needle hown hK hP hL_ob hg_ob rfl 0 (by decide) (hts (.fieldLink RX2 11 "NeedleBoard" "needles" "[LNeedleBoard$Needle;") (by decide +kernel)) rfl dX2_needle_59 ?_
    refine pg_alen (v := 8) hx hb hK hP 2 hL_arr hg_arr htN rfl dX2_needle_62 ?_
    refine lv_icmp_lt (tgt := 76) hx hb dX2_needle_63 (by decide) (fun c_4 => ?_) (fun c_4 => ?_)
    · have hF : fX2_needle i made x2 x3 = 0 := by unfold fX2_needle; rw [if_pos c_1, if_pos c_2, if_pos c_3, if_pos c_4]
      have hSA : va_S (PA L s.heap.size) s.heap s.heap [] := va_S.rf
      refine lv_aload_n hx hb dX2_needle_76 rfl (lv_at hl 3 rfl) ?_
      refine pg_get hx hb hts hin_X2_X2_needle hown hK hP hL_ob hg_ob rfl 0 (by decide) (hts (.fieldLink RX2 11 "NeedleBoard" "needles" "[LNeedleBoard$Needle;") (by decide +kernel)) rfl dX2_needle_77 ?_
      refine lv_aload_n hx hb dX2_needle_80 rfl (lv_at hl 3 rfl) ?_
      refine pg_get hx hb hts hin_X2_X2_needle hown hK hP hL_ob hg_ob rfl 1 (by decide) (hts (.fieldLink RX2 39 "NeedleBoard" "made" "I") (by decide +kernel)) rfl dX2_needle_81 ?_
      refine pg_new (A := PA L s.heap.size) (ci := 1) (fs := [.null, .long 0, .long 0, .long 0, .long 0, .long 0, .long 0, .long 0]) hx hb hts hin_X1_X2_needle tyX1 tyX1_ok hown (hts (.classLink RX2 9 RX1) (by decide +kernel)) (hts (.instantiable RX1 8) (by decide +kernel)) (hts (.initialized RX1) (by decide +kernel)) hK hP hD0 hSA (fun q h => Or.inr h) rfl (by decide +kernel) (Nat.le_of_ble_eq_true rfl) (Nat.le_of_ble_eq_true rfl) dX2_needle_84 (fun q H hqL hAq hP hD hS => ?_)
      have hqs : s.heap.size ≤ q := hAq.elim (fun h => absurd h hqL) id
      obtain ⟨g1, eg1⟩ : ∃ z : Nat → va_E, z = va_up g q (.inr (1, [.null, .long 0, .long 0, .long 0, .long 0, .long 0, .long 0, .long 0])) := ⟨_, rfl⟩
      have hP : va_P D vwCl (va_pl (L ++ [q]) g1) H := by rw [eg1]; exact hP
      have hD : va_D (PA L s.heap.size) (va_pl (L ++ [q]) g1) := by rw [eg1]; exact hD
      have hg_q : g1 q = .inr (1, [.null, .long 0, .long 0, .long 0, .long 0, .long 0, .long 0, .long 0]) := by rw [eg1]; exact va_up_self _ _ _
      have hrs : ∀ q' : Nat, q' ≠ q → g1 q' = g q' := fun q' h => (congrFun eg1 q').trans (va_up_ne _ _ h)
      have hLA : ∀ z ∈ L ++ [q], PA L s.heap.size z := fun z hz => (List.mem_append.mp hz).elim (fun h => Or.inl h) (fun h => by rw [List.mem_singleton.mp h]; exact hAq)
      have hL_q : q ∈ L ++ [q] := List.mem_append_right _ List.mem_cons_self
      have hL_ob' : ob ∈ L ++ [q] := List.mem_append_left _ hL_ob
      have hL_arr' : arr ∈ L ++ [q] := List.mem_append_left _ hL_arr
      have ne_ob_q : ob ≠ q := fun h => hqL (h ▸ hL_ob)
      have ne_arr_q : arr ≠ q := fun h => hqL (h ▸ hL_arr)
      refine lv_dup hx hb dX2_needle_87 rfl ?_
      refine lv_aload hx hb dX2_needle_88 (lv_at hl 2 rfl) ?_
      refine lv_lload hx hb dX2_needle_90 (lv_at hl 1 rfl) ?_
      refine lv_lload hx hb dX2_needle_92 (lv_at hl 0 rfl) ?_
      refine mc_I (b := q) (As := [.ref (ad i), .long ((fX2_numberFrom i x2).2), .long ((fX2_numberFrom i x3).2)]) (rest := [.ref q, .int made, .ref arr]) ⟨hx, hb, hml, hown, hts⟩ (c_X1_init l D tys ad (L ++ [q]) g1 q i ((fX2_numberFrom i x2).2) ((fX2_numberFrom i x3).2) hi hL_q hg_q) (cwI 3 hts gX2_needle_X1_init rfl rfl rfl (hts (.initialized RX1) (by decide +kernel)) (hts (.methodLink RX2 48 yX1_init) (by decide +kernel)) (hts (.instanceMethod yX1_init) (by decide +kernel)) rfl (by decide +kernel) ⟨(Nat.le_of_ble_eq_true rfl), (Nat.le_of_ble_eq_true rfl)⟩) (fun U hU hvm => WW.mk hP hK hD hKC0 hTC hS hLA (fun z h => Or.inr h) hU hvm) hXN hS hLA rfl hl.1 rfl (lv_room (Nat.le_of_ble_eq_true rfl)) dX2_needle_94 ⟨(Nat.le_of_ble_eq_true rfl), (Nat.le_of_ble_eq_true rfl)⟩ (fun g2 H locs hp9 hP hD hS => ?_)
      obtain ⟨hg_q, hr9⟩ := hp9
      have hrs : ∀ q' : Nat, q' ≠ q → g2 q' = g q' := fun q' h => (hr9 q' h).trans (hrs q' h)
      have hg_ob : g2 ob = .inr (2, [.ref arr, .int made, .int mvs, .long twi, .int tna]) := (hrs ob ne_ob_q).trans hg_ob
      have hg_arr : g2 arr = .inl (cyN, 8, .inr (.inr (.inr (.inr fa)))) := (hrs arr ne_arr_q).trans hg_arr
      refine W.eq (g2 := F0 m 97 ls [.ref q, .int made, .ref arr]) rfl ?_
      refine pg_aast (r := (RX1, TX1, 8)) hx hb hK hP hD hS 2 1 hL_arr' hg_arr htN hL_q hg_q rfl (hmd c_4) dX2_needle_97 (fun H locs hP hD hS => ?_)
      obtain ⟨g3, eg3⟩ : ∃ z : Nat → va_E, z = va_up g2 arr (.inl (cyN, 8, .inr (.inr (.inr (.inr (va_up fa made.toNatClampNeg (some q))))))) := ⟨_, rfl⟩
      have hP : va_P D vwCl (va_pl (L ++ [q]) g3) H := by rw [eg3]; exact hP
      have hD : va_D (PA L s.heap.size) (va_pl (L ++ [q]) g3) := by rw [eg3]; exact hD
      have hg_arr : g3 arr = .inl (cyN, 8, .inr (.inr (.inr (.inr (va_up fa made.toNatClampNeg (some q)))))) := by rw [eg3]; exact va_up_self _ _ _
      have hr3 : ∀ q' : Nat, q' ≠ arr → g3 q' = g2 q' := fun q' h => (congrFun eg3 q').trans (va_up_ne _ _ h)
      have hg_ob : g3 ob = .inr (2, [.ref arr, .int made, .int mvs, .long twi, .int tna]) := (hr3 ob (Ne.symm ne_arr_ob)).trans hg_ob
      have hg_q := (hr3 q (Ne.symm ne_arr_q)).trans hg_q
      refine lv_aload_n hx hb dX2_needle_98 rfl (lv_at hl 3 rfl) ?_
      refine lv_dup hx hb dX2_needle_99 rfl ?_
      refine pg_get hx hb hts hin_X2_X2_needle hown hK hP hL_ob' hg_ob rfl 1 (by decide) (hts (.fieldLink RX2 39 "NeedleBoard" "made" "I") (by decide +kernel)) rfl dX2_needle_100 ?_
      refine lv_iconst (v := 1) hx hb dX2_needle_103 (by decide) ?_
      refine lv_iadd hx hb dX2_needle_104 ?_
      refine pg_put (ty := .int) hx hb hts hin_X2_X2_needle tyX2 tyX2_ok nmX2 hown hK hP hD hS hL_ob' hg_ob rfl 1 (by decide) (hts (.fieldLink RX2 39 "NeedleBoard" "made" "I") (by decide +kernel)) rfl (by decide +kernel) rfl rfl (Nat.le_of_ble_eq_true rfl) dX2_needle_105 (fun H locs hP hD hS => ?_)
      obtain ⟨g4, eg4⟩ : ∃ z : Nat → va_E, z = va_up g3 ob (.inr (2, [.ref arr, .int (made + 1), .int mvs, .long twi, .int tna])) := ⟨_, rfl⟩
      have hP : va_P D vwCl (va_pl (L ++ [q]) g4) H := by rw [eg4]; exact hP
      have hD : va_D (PA L s.heap.size) (va_pl (L ++ [q]) g4) := by rw [eg4]; exact hD
      have hg_ob : g4 ob = .inr (2, [.ref arr, .int (made + 1), .int mvs, .long twi, .int tna]) := by rw [eg4]; exact va_up_self _ _ _
      have hr4 : ∀ q' : Nat, q' ≠ ob → g4 q' = g3 q' := fun q' h => (congrFun eg4 q').trans (va_up_ne _ _ h)
      have hg_q := (hr4 q (Ne.symm ne_ob_q)).trans hg_q
      have hg_arr := (hr4 arr ne_arr_ob).trans hg_arr
      have hrs : ∀ q' : Nat, q' ≠ q → q' ≠ ob → q' ≠ arr → g4 q' = g q' := fun q' h1 h2 h3 => (hr4 q' h2).trans ((hr3 q' h3).trans (hrs q' h1))
      refine lv_aload_n hx hb dX2_needle_108 rfl (lv_at hl 3 rfl) ?_
      refine pg_get hx hb hts hin_X2_X2_needle hown hK hP hL_ob' hg_ob rfl 1 (by decide) (hts (.fieldLink RX2 39 "NeedleBoard" "made" "I") (by decide +kernel)) rfl dX2_needle_109 ?_
      refine lv_iconst (v := 1) hx hb dX2_needle_112 (by decide) ?_
      refine lv_isub hx hb dX2_needle_113 ?_
      exact vx_ret (W.widen (k := 3) (n := 20) (Nat.le_of_ble_eq_true rfl) (Nat.le_of_ble_eq_true rfl) (W.iret hx hb hr (fun t ht hW => ⟨hF, rfl, ⟨q, g4, hqL, hqs, WW.mk hP hK hD hKC0 hTC hS hLA (fun z h => Or.inr h) ht hW.alike, hg_q, hg_ob, hg_arr, hrs⟩, PA.F hS ht⟩) (fun q h => hS.2.2 q h) dX2_needle_114))
    · exact th_S (is := 45) (text := "the board is full") hx hb hfl hown (hts (.classLink RX2 43 "java/lang/IllegalStateException") (by decide +kernel)) (hts (.initialized "java/lang/IllegalStateException") (by decide +kernel)) (fun w hw => hts w (hgS_X2_needle w hw)) hXN (by decide +kernel) hP0 hK hD0 hKC0 hTC (hl.1.trans hml.symm) dX2_needle_66 dX2_needle_69 dX2_needle_70 dX2_needle_72 dX2_needle_75 hout (Nat.le_of_ble_eq_true rfl) (Nat.le_of_ble_eq_true rfl) (Nat.le_of_ble_eq_true rfl) (Nat.le_of_ble_eq_true rfl) hlocks (by unfold fX2_needle; rw [if_pos c_1, if_pos c_2, if_pos c_3, if_neg c_4]) (Nat.le_of_ble_eq_true rfl) (Nat.le_of_ble_eq_true rfl)
  · exact th_A (is := 34) (text := "the low limit is above the high one") hx hb hfl hown (hts (.classLink RX2 32 "java/lang/IllegalArgumentException") (by decide +kernel)) (hts (.initialized "java/lang/IllegalArgumentException") (by decide +kernel)) (fun w hw => hts w (hgA_X2_needle w hw)) hXN (by decide +kernel) hP0 hK hD0 hKC0 hTC (hl.1.trans hml.symm) dX2_needle_44 dX2_needle_47 dX2_needle_48 dX2_needle_50 dX2_needle_53 hout (Nat.le_of_ble_eq_true rfl) (Nat.le_of_ble_eq_true rfl) (Nat.le_of_ble_eq_true rfl) (Nat.le_of_ble_eq_true rfl) hlocks (by unfold fX2_needle; rw [if_pos c_1, if_pos c_2, if_neg c_3]) (Nat.le_of_ble_eq_true rfl) (Nat.le_of_ble_eq_true rfl)
