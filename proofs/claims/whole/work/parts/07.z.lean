def fX0_fineFromCoarse (x0 : Int64) : Int64 :=
  if (fX0_sizeOf 1 x0) = (0 : Int64) then
    fX0_withSideOf 0 (0 : Int64) x0
  else
    if (fX0_sizeOf 1 x0) = (kInf 1) then
      fX0_withSideOf 0 (kInf 0) x0
    else
      let v80_3 : Int32 := ((fX0_exponentOf 1 (fX0_sizeOf 1 x0)) - (kBias 1)) + (kBias 0)
      let v100_4 : Int64 := fX0_sizeFrom 0 ((fX0_significandOf 1 (fX0_sizeOf 1 x0)) <<< ((((kFrac 0) - (kFrac 1)) + (3 : Int32)).toInt64 &&& 63)) v80_3
      fX0_withSideOf 0 v100_4 x0
theorem hd_X0_fineFromCoarse : yX0_fineFromCoarse.cls ≠ "java/lang/invoke/MethodHandle" ∧ yX0_fineFromCoarse.cls ≠ "java/lang/invoke/VarHandle" ∧ (parseMethodDescriptor yX0_fineFromCoarse.desc).map (fun d => d.parameters.length) = some 1 := by decide +kernel
set_option maxHeartbeats 4000000 in
set_option maxRecDepth 100000 in
theorem c_X0_fineFromCoarse (l : Launch) (ad : Nat → Nat) (x0 : Int64) : Met l yX0_fineFromCoarse wsX0_fineFromCoarse ({ frames := 3, cells := 0, slots := 0, locals := 77 }) (PK ad [.long x0]) (k2_QcV (.long (fX0_fineFromCoarse x0))) 0 0 (fun _ => False) := by
  refine Met.ofW (cc := cX0_fineFromCoarse) (maxL := 8) (ret := (some .long)) (by decide) rfl ?_
  intro p e s m args below meth c s₁ B hml hv
  obtain ⟨rfl, hKC⟩ := hv
  have hx := B.exec
  have hb := B.bytes
  have hr := B.returns
  have hts := atoms_spec (ws := wsX0_fineFromCoarse) B.pre
  have hown : s.vm.findClass RX0 = some m.cls := findClass_of_methodNamed B.named
  have hlocks := B.notSynchronized
  have hS : va_S (fun _ => False) s.heap s.heap [] := va_S.rf
  have hl := lv_entry ([.long x0]) (n := 8) (Nat.le_of_ble_eq_true rfl)
  rw [lg_entry_eq]
  generalize (lg_sl ([.long x0]) ++ List.replicate (8 - (lg_sl ([.long x0])).length) Slot.unset).toArray = ls at hl ⊢
  have hl : lv_has ls 8 [(0, .long x0)] := hl
  refine pk_coarse hx hb hKC hS hown (hts (.fieldLink RX0 7 "NeedleBoard$Kind" "COARSE" "LNeedleBoard$Kind;") (by decide +kernel)) dX0_fineFromCoarse_0 ?_
  refine lv_lload_n hx hb dX0_fineFromCoarse_3 rfl (lv_at hl 0 rfl) ?_
  refine pc_V (i := 1) (As := [.long x0]) (rest := []) (r := .long (fX0_sizeOf 1 x0)) ⟨hx, hb, hml, hown, hts⟩ (c_X0_sizeOf l ad 1 (by decide) x0) (cwV 1 hts gX0_fineFromCoarse_X0_sizeOf rfl rfl rfl hd_X0_sizeOf ⟨Nat.le_of_ble_eq_true rfl, Nat.le_of_ble_eq_true rfl⟩) hKC hS (by decide) rfl hl.1 rfl (lv_room (Nat.le_of_ble_eq_true rfl)) dX0_fineFromCoarse_4 ⟨Nat.zero_le _, Nat.zero_le _⟩ ?_
  refine lv_lstore_n (lv' := [(2, .long (fX0_sizeOf 1 x0)), (0, .long x0)]) hx hb dX0_fineFromCoarse_7 rfl hl (by decide) rfl (fun ls hl => ?_)
  refine lv_lload_n hx hb dX0_fineFromCoarse_8 rfl (lv_at hl 0 rfl) ?_
  refine lv_lconst (v := 0) hx hb dX0_fineFromCoarse_9 (by decide) ?_
  refine pl_ne (tgt := 20) hx hb dX0_fineFromCoarse_10 dX0_fineFromCoarse_11 (by decide) (fun c_1 => ?_) (fun c_1 => ?_)
  · refine lv_lload_n hx hb dX0_fineFromCoarse_20 rfl (lv_at hl 0 rfl) ?_
    refine pk_coarse hx hb hKC hS hown (hts (.fieldLink RX0 7 "NeedleBoard$Kind" "COARSE" "LNeedleBoard$Kind;") (by decide +kernel)) dX0_fineFromCoarse_21 ?_
    refine pk_inf hx hb hKC (by decide) hS hown (hts (.fieldLink RX0 48 "NeedleBoard$Kind" "infinity" "J") (by decide +kernel)) dX0_fineFromCoarse_24 ?_
    refine pl_ne (tgt := 42) hx hb dX0_fineFromCoarse_27 dX0_fineFromCoarse_28 (by decide) (fun c_2 => ?_) (fun c_2 => ?_)
    · refine pk_fine hx hb hKC hS hown (hts (.fieldLink RX0 3 "NeedleBoard$Kind" "FINE" "LNeedleBoard$Kind;") (by decide +kernel)) dX0_fineFromCoarse_42 ?_
      refine pk_frac hx hb hKC (by decide) hS hown (hts (.fieldLink RX0 29 "NeedleBoard$Kind" "fractionBits" "I") (by decide +kernel)) dX0_fineFromCoarse_45 ?_
      refine pk_coarse hx hb hKC hS hown (hts (.fieldLink RX0 7 "NeedleBoard$Kind" "COARSE" "LNeedleBoard$Kind;") (by decide +kernel)) dX0_fineFromCoarse_48 ?_
      refine pk_frac hx hb hKC (by decide) hS hown (hts (.fieldLink RX0 29 "NeedleBoard$Kind" "fractionBits" "I") (by decide +kernel)) dX0_fineFromCoarse_51 ?_
      refine lv_isub hx hb dX0_fineFromCoarse_54 ?_
      refine lv_iconst (v := 3) hx hb dX0_fineFromCoarse_55 (by decide) ?_
      refine lv_iadd hx hb dX0_fineFromCoarse_56 ?_
      refine lv_istore (lv' := [(6, .int (((kFrac 0) - (kFrac 1)) + (3 : Int32))), (2, .long (fX0_sizeOf 1 x0)), (0, .long x0)]) hx hb dX0_fineFromCoarse_57 hl (by decide) rfl (fun ls hl => ?_)
      refine pk_coarse hx hb hKC hS hown (hts (.fieldLink RX0 7 "NeedleBoard$Kind" "COARSE" "LNeedleBoard$Kind;") (by decide +kernel)) dX0_fineFromCoarse_59 ?_
      refine lv_lload_n hx hb dX0_fineFromCoarse_62 rfl (lv_at hl 1 rfl) ?_
      refine pc_V (i := 1) (As := [.long (fX0_sizeOf 1 x0)]) (rest := []) (r := .int (fX0_exponentOf 1 (fX0_sizeOf 1 x0))) ⟨hx, hb, hml, hown, hts⟩ (c_X0_exponentOf l ad 1 (by decide) (fX0_sizeOf 1 x0)) (cwV 1 hts gX0_fineFromCoarse_X0_exponentOf rfl rfl rfl hd_X0_exponentOf ⟨Nat.le_of_ble_eq_true rfl, Nat.le_of_ble_eq_true rfl⟩) hKC hS (by decide) rfl hl.1 rfl (lv_room (Nat.le_of_ble_eq_true rfl)) dX0_fineFromCoarse_63 ⟨Nat.zero_le _, Nat.zero_le _⟩ ?_
      refine pk_coarse hx hb hKC hS hown (hts (.fieldLink RX0 7 "NeedleBoard$Kind" "COARSE" "LNeedleBoard$Kind;") (by decide +kernel)) dX0_fineFromCoarse_66 ?_
      refine pk_bias hx hb hKC (by decide) hS hown (hts (.fieldLink RX0 33 "NeedleBoard$Kind" "bias" "I") (by decide +kernel)) dX0_fineFromCoarse_69 ?_
      refine lv_isub hx hb dX0_fineFromCoarse_72 ?_
      refine pk_fine hx hb hKC hS hown (hts (.fieldLink RX0 3 "NeedleBoard$Kind" "FINE" "LNeedleBoard$Kind;") (by decide +kernel)) dX0_fineFromCoarse_73 ?_
      refine pk_bias hx hb hKC (by decide) hS hown (hts (.fieldLink RX0 33 "NeedleBoard$Kind" "bias" "I") (by decide +kernel)) dX0_fineFromCoarse_76 ?_
      refine lv_iadd hx hb dX0_fineFromCoarse_79 ?_
      refine lv_topi (fun v80_3 e_v80_3 => ?_)
      refine lv_istore (lv' := [(7, .int v80_3), (6, .int (((kFrac 0) - (kFrac 1)) + (3 : Int32))), (2, .long (fX0_sizeOf 1 x0)), (0, .long x0)]) hx hb dX0_fineFromCoarse_80 hl (by decide) rfl (fun ls hl => ?_)
      refine pk_fine hx hb hKC hS hown (hts (.fieldLink RX0 3 "NeedleBoard$Kind" "FINE" "LNeedleBoard$Kind;") (by decide +kernel)) dX0_fineFromCoarse_82 ?_
      refine pk_coarse hx hb hKC hS hown (hts (.fieldLink RX0 7 "NeedleBoard$Kind" "COARSE" "LNeedleBoard$Kind;") (by decide +kernel)) dX0_fineFromCoarse_85 ?_
      refine lv_lload_n hx hb dX0_fineFromCoarse_88 rfl (lv_at hl 2 rfl) ?_
      refine pc_V (i := 1) (As := [.long (fX0_sizeOf 1 x0)]) (rest := [.ref (ad 0)]) (r := .long (fX0_significandOf 1 (fX0_sizeOf 1 x0))) ⟨hx, hb, hml, hown, hts⟩ (c_X0_significandOf l ad 1 (by decide) (fX0_sizeOf 1 x0)) (cwV 1 hts gX0_fineFromCoarse_X0_significandOf rfl rfl rfl hd_X0_significandOf ⟨Nat.le_of_ble_eq_true rfl, Nat.le_of_ble_eq_true rfl⟩) hKC hS (by decide) rfl hl.1 rfl (lv_room (Nat.le_of_ble_eq_true rfl)) dX0_fineFromCoarse_89 ⟨Nat.zero_le _, Nat.zero_le _⟩ ?_
      refine lv_iload hx hb dX0_fineFromCoarse_92 (lv_at hl 1 rfl) ?_
      refine lv_lshl hx hb dX0_fineFromCoarse_94 rfl ?_
      refine lv_iload hx hb dX0_fineFromCoarse_95 (lv_at hl 0 rfl) ?_
      refine pc_V (i := 0) (As := [.long ((fX0_significandOf 1 (fX0_sizeOf 1 x0)) <<< ((((kFrac 0) - (kFrac 1)) + (3 : Int32)).toInt64 &&& 63)), .int v80_3]) (rest := []) (r := .long (fX0_sizeFrom 0 ((fX0_significandOf 1 (fX0_sizeOf 1 x0)) <<< ((((kFrac 0) - (kFrac 1)) + (3 : Int32)).toInt64 &&& 63)) v80_3)) ⟨hx, hb, hml, hown, hts⟩ (c_X0_sizeFrom l ad 0 (by decide) ((fX0_significandOf 1 (fX0_sizeOf 1 x0)) <<< ((((kFrac 0) - (kFrac 1)) + (3 : Int32)).toInt64 &&& 63)) v80_3) (cwV 2 hts gX0_fineFromCoarse_X0_sizeFrom rfl rfl rfl hd_X0_sizeFrom ⟨Nat.le_of_ble_eq_true rfl, Nat.le_of_ble_eq_true rfl⟩) hKC hS (by decide) rfl hl.1 rfl (lv_room (Nat.le_of_ble_eq_true rfl)) dX0_fineFromCoarse_97 ⟨Nat.zero_le _, Nat.zero_le _⟩ ?_
      refine lv_topl (fun v100_4 e_v100_4 => ?_)
      refine lv_lstore (lv' := [(4, .long v100_4), (7, .int v80_3), (6, .int (((kFrac 0) - (kFrac 1)) + (3 : Int32))), (2, .long (fX0_sizeOf 1 x0)), (0, .long x0)]) hx hb dX0_fineFromCoarse_100 hl (by decide) rfl (fun ls hl => ?_)
      refine pk_fine hx hb hKC hS hown (hts (.fieldLink RX0 3 "NeedleBoard$Kind" "FINE" "LNeedleBoard$Kind;") (by decide +kernel)) dX0_fineFromCoarse_102 ?_
      refine lv_lload hx hb dX0_fineFromCoarse_105 (lv_at hl 0 rfl) ?_
      refine lv_lload_n hx hb dX0_fineFromCoarse_107 rfl (lv_at hl 4 rfl) ?_
      refine pc_V (i := 0) (As := [.long v100_4, .long x0]) (rest := []) (r := .long (fX0_withSideOf 0 v100_4 x0)) ⟨hx, hb, hml, hown, hts⟩ (c_X0_withSideOf l ad 0 (by decide) v100_4 x0) (cwV 2 hts gX0_fineFromCoarse_X0_withSideOf rfl rfl rfl hd_X0_withSideOf ⟨Nat.le_of_ble_eq_true rfl, Nat.le_of_ble_eq_true rfl⟩) hKC hS (by decide) rfl hl.1 rfl (lv_room (Nat.le_of_ble_eq_true rfl)) dX0_fineFromCoarse_108 ⟨Nat.zero_le _, Nat.zero_le _⟩ ?_
      exact W.lret hx hb hr (fun t ht _ => ⟨congrArg (fun z => Outcome.returned (some (Value.long z))) (by rw [fX0_fineFromCoarse]; dsimp only; rw [if_neg c_1, if_neg c_2]; rw [e_v100_4]; rw [e_v80_3]), ht⟩) (fun _ h => nomatch h) dX0_fineFromCoarse_111
    · refine pk_fine hx hb hKC hS hown (hts (.fieldLink RX0 3 "NeedleBoard$Kind" "FINE" "LNeedleBoard$Kind;") (by decide +kernel)) dX0_fineFromCoarse_31 ?_
      refine pk_inf hx hb hKC (by decide) hS hown (hts (.fieldLink RX0 48 "NeedleBoard$Kind" "infinity" "J") (by decide +kernel)) dX0_fineFromCoarse_34 ?_
      refine lv_lstore (lv' := [(4, .long (kInf 0)), (2, .long (fX0_sizeOf 1 x0)), (0, .long x0)]) hx hb dX0_fineFromCoarse_37 hl (by decide) rfl (fun ls hl => ?_)
      refine lv_goto (tgt := 102) hx hb dX0_fineFromCoarse_39 (by decide) ?_
      refine pk_fine hx hb hKC hS hown (hts (.fieldLink RX0 3 "NeedleBoard$Kind" "FINE" "LNeedleBoard$Kind;") (by decide +kernel)) dX0_fineFromCoarse_102 ?_
      refine lv_lload hx hb dX0_fineFromCoarse_105 (lv_at hl 0 rfl) ?_
      refine lv_lload_n hx hb dX0_fineFromCoarse_107 rfl (lv_at hl 2 rfl) ?_
      refine pc_V (i := 0) (As := [.long (kInf 0), .long x0]) (rest := []) (r := .long (fX0_withSideOf 0 (kInf 0) x0)) ⟨hx, hb, hml, hown, hts⟩ (c_X0_withSideOf l ad 0 (by decide) (kInf 0) x0) (cwV 2 hts gX0_fineFromCoarse_X0_withSideOf rfl rfl rfl hd_X0_withSideOf ⟨Nat.le_of_ble_eq_true rfl, Nat.le_of_ble_eq_true rfl⟩) hKC hS (by decide) rfl hl.1 rfl (lv_room (Nat.le_of_ble_eq_true rfl)) dX0_fineFromCoarse_108 ⟨Nat.zero_le _, Nat.zero_le _⟩ ?_
      exact W.lret hx hb hr (fun t ht _ => ⟨congrArg (fun z => Outcome.returned (some (Value.long z))) (by unfold fX0_fineFromCoarse; rw [if_neg c_1, if_pos c_2]), ht⟩) (fun _ h => nomatch h) dX0_fineFromCoarse_111
  · refine lv_lconst (v := 0) hx hb dX0_fineFromCoarse_14 (by decide) ?_
    refine lv_lstore (lv' := [(4, .long (0 : Int64)), (2, .long (fX0_sizeOf 1 x0)), (0, .long x0)]) hx hb dX0_fineFromCoarse_15 hl (by decide) rfl (fun ls hl => ?_)
    refine lv_goto (tgt := 102) hx hb dX0_fineFromCoarse_17 (by decide) ?_
    refine pk_fine hx hb hKC hS hown (hts (.fieldLink RX0 3 "NeedleBoard$Kind" "FINE" "LNeedleBoard$Kind;") (by decide +kernel)) dX0_fineFromCoarse_102 ?_
    refine lv_lload hx hb dX0_fineFromCoarse_105 (lv_at hl 0 rfl) ?_
    refine lv_lload_n hx hb dX0_fineFromCoarse_107 rfl (lv_at hl 2 rfl) ?_
    refine pc_V (i := 0) (As := [.long (0 : Int64), .long x0]) (rest := []) (r := .long (fX0_withSideOf 0 (0 : Int64) x0)) ⟨hx, hb, hml, hown, hts⟩ (c_X0_withSideOf l ad 0 (by decide) (0 : Int64) x0) (cwV 2 hts gX0_fineFromCoarse_X0_withSideOf rfl rfl rfl hd_X0_withSideOf ⟨Nat.le_of_ble_eq_true rfl, Nat.le_of_ble_eq_true rfl⟩) hKC hS (by decide) rfl hl.1 rfl (lv_room (Nat.le_of_ble_eq_true rfl)) dX0_fineFromCoarse_108 ⟨Nat.zero_le _, Nat.zero_le _⟩ ?_
    exact W.lret hx hb hr (fun t ht _ => ⟨congrArg (fun z => Outcome.returned (some (Value.long z))) (by unfold fX0_fineFromCoarse; rw [if_pos c_1]), ht⟩) (fun _ h => nomatch h) dX0_fineFromCoarse_111
def fJxe99ae_isNaN_b9ae7 (x0 : UInt64) : Int32 :=
  if (Op.cmpValue (FP.dcmp x0 x0) .l) = 0 then
    (0 : Int32)
  else
    (1 : Int32)
theorem hd_Jxe99ae_isNaN_b9ae7 : yJxe99ae_isNaN_b9ae7.cls ≠ "java/lang/invoke/MethodHandle" ∧ yJxe99ae_isNaN_b9ae7.cls ≠ "java/lang/invoke/VarHandle" ∧ (parseMethodDescriptor yJxe99ae_isNaN_b9ae7.desc).map (fun d => d.parameters.length) = some 1 := by decide +kernel
set_option maxHeartbeats 4000000 in
set_option maxRecDepth 100000 in
theorem c_Jxe99ae_isNaN_b9ae7 (l : Launch) (x0 : UInt64) : Met l yJxe99ae_isNaN_b9ae7 wsJxe99ae_isNaN_b9ae7 ({ frames := 0, cells := 0, slots := 0, locals := 0 }) (P0 [.double x0]) (k2_QcV (.int (fJxe99ae_isNaN_b9ae7 x0))) 0 0 (fun _ => False) := by
  refine va_MetF (cc := cJxe99ae_isNaN_b9ae7) (maxL := 2) (ret := (some .boolean)) (by decide +kernel) rfl ?_
  intro p e s m args below meth c s₁ B hml hv
  have hv2 : args = _ := hv
  subst hv2
  have hx := B.exec
  have hb := B.bytes
  have hr := B.returns
  have hts := atoms_spec (ws := wsJxe99ae_isNaN_b9ae7) B.pre
  have hown : s.vm.findClass RJxe99ae = some m.cls := findClass_of_methodNamed B.named
  have hlocks := B.notSynchronized
  have hl := lv_entry ([.double x0]) (n := 2) (Nat.le_of_ble_eq_true rfl)
  rw [lg_entry_eq]
  generalize (lg_sl ([.double x0]) ++ List.replicate (2 - (lg_sl ([.double x0])).length) Slot.unset).toArray = ls at hl ⊢
  have hl : lv_has ls 2 [(0, .double x0)] := hl
  refine lv_dload_n hx hb dJxe99ae_isNaN_b9ae7_0 rfl (lv_at hl 0 rfl) ?_
  refine lv_dload_n hx hb dJxe99ae_isNaN_b9ae7_1 rfl (lv_at hl 0 rfl) ?_
  refine lv_dcmp hx hb dJxe99ae_isNaN_b9ae7_2 ?_
  refine lv_if_eq (tgt := 10) hx hb dJxe99ae_isNaN_b9ae7_3 (by decide) (fun c_1 => ?_) (fun c_1 => ?_)
  · refine lv_iconst (v := 0) hx hb dJxe99ae_isNaN_b9ae7_10 (by decide) ?_
    exact W.zret hx hb hr (by decide) (fun t ht _ => ⟨congrArg (fun z => Outcome.returned (some (Value.int z))) (by unfold fJxe99ae_isNaN_b9ae7; rw [if_pos c_1]), ht⟩) (fun _ h => nomatch h) dJxe99ae_isNaN_b9ae7_11
  · refine lv_iconst (v := 1) hx hb dJxe99ae_isNaN_b9ae7_6 (by decide) ?_
    refine lv_goto (tgt := 11) hx hb dJxe99ae_isNaN_b9ae7_7 (by decide) ?_
    exact W.zret hx hb hr (by decide) (fun t ht _ => ⟨congrArg (fun z => Outcome.returned (some (Value.int z))) (by unfold fJxe99ae_isNaN_b9ae7; rw [if_neg c_1]), ht⟩) (fun _ h => nomatch h) dJxe99ae_isNaN_b9ae7_11
def fJxf58ca_isNaN_12338 (x0 : UInt32) : Int32 :=
  if (Op.cmpValue (FP.fcmp x0 x0) .l) = 0 then
    (0 : Int32)
  else
    (1 : Int32)
theorem hd_Jxf58ca_isNaN_12338 : yJxf58ca_isNaN_12338.cls ≠ "java/lang/invoke/MethodHandle" ∧ yJxf58ca_isNaN_12338.cls ≠ "java/lang/invoke/VarHandle" ∧ (parseMethodDescriptor yJxf58ca_isNaN_12338.desc).map (fun d => d.parameters.length) = some 1 := by decide +kernel
set_option maxHeartbeats 4000000 in
set_option maxRecDepth 100000 in
theorem c_Jxf58ca_isNaN_12338 (l : Launch) (x0 : UInt32) : Met l yJxf58ca_isNaN_12338 wsJxf58ca_isNaN_12338 ({ frames := 0, cells := 0, slots := 0, locals := 0 }) (P0 [.float x0]) (k2_QcV (.int (fJxf58ca_isNaN_12338 x0))) 0 0 (fun _ => False) := by
  refine va_MetF (cc := cJxf58ca_isNaN_12338) (maxL := 1) (ret := (some .boolean)) (by decide +kernel) rfl ?_
  intro p e s m args below meth c s₁ B hml hv
  have hv2 : args = _ := hv
  subst hv2
  have hx := B.exec
  have hb := B.bytes
  have hr := B.returns
  have hts := atoms_spec (ws := wsJxf58ca_isNaN_12338) B.pre
  have hown : s.vm.findClass RJxf58ca = some m.cls := findClass_of_methodNamed B.named
  have hlocks := B.notSynchronized
  have hl := lv_entry ([.float x0]) (n := 1) (Nat.le_of_ble_eq_true rfl)
  rw [lg_entry_eq]
  generalize (lg_sl ([.float x0]) ++ List.replicate (1 - (lg_sl ([.float x0])).length) Slot.unset).toArray = ls at hl ⊢
  have hl : lv_has ls 1 [(0, .float x0)] := hl
  refine lv_fload_n hx hb dJxf58ca_isNaN_12338_0 rfl (lv_at hl 0 rfl) ?_
  refine lv_fload_n hx hb dJxf58ca_isNaN_12338_1 rfl (lv_at hl 0 rfl) ?_
  refine lv_fcmp hx hb dJxf58ca_isNaN_12338_2 ?_
  refine lv_if_eq (tgt := 10) hx hb dJxf58ca_isNaN_12338_3 (by decide) (fun c_1 => ?_) (fun c_1 => ?_)
  · refine lv_iconst (v := 0) hx hb dJxf58ca_isNaN_12338_10 (by decide) ?_
    exact W.zret hx hb hr (by decide) (fun t ht _ => ⟨congrArg (fun z => Outcome.returned (some (Value.int z))) (by unfold fJxf58ca_isNaN_12338; rw [if_pos c_1]), ht⟩) (fun _ h => nomatch h) dJxf58ca_isNaN_12338_11
  · refine lv_iconst (v := 1) hx hb dJxf58ca_isNaN_12338_6 (by decide) ?_
    refine lv_goto (tgt := 11) hx hb dJxf58ca_isNaN_12338_7 (by decide) ?_
    exact W.zret hx hb hr (by decide) (fun t ht _ => ⟨congrArg (fun z => Outcome.returned (some (Value.int z))) (by unfold fJxf58ca_isNaN_12338; rw [if_neg c_1]), ht⟩) (fun _ h => nomatch h) dJxf58ca_isNaN_12338_11
def fJxe99ae_doubleToLongBits_ccdee (x0 : UInt64) : Int64 :=
  if (fJxe99ae_isNaN_b9ae7 x0) = 0 then
    x0.toInt64
  else
    (9221120237041090560 : Int64)
theorem hd_Jxe99ae_doubleToLongBits_ccdee : yJxe99ae_doubleToLongBits_ccdee.cls ≠ "java/lang/invoke/MethodHandle" ∧ yJxe99ae_doubleToLongBits_ccdee.cls ≠ "java/lang/invoke/VarHandle" ∧ (parseMethodDescriptor yJxe99ae_doubleToLongBits_ccdee.desc).map (fun d => d.parameters.length) = some 1 := by decide +kernel
set_option maxHeartbeats 4000000 in
set_option maxRecDepth 100000 in
theorem c_Jxe99ae_doubleToLongBits_ccdee (l : Launch) (x0 : UInt64) : Met l yJxe99ae_doubleToLongBits_ccdee wsJxe99ae_doubleToLongBits_ccdee ({ frames := 1, cells := 0, slots := 0, locals := 21 }) (P0 [.double x0]) (k2_QcV (.long (fJxe99ae_doubleToLongBits_ccdee x0))) 0 0 (fun _ => False) := by
  refine va_MetF (cc := cJxe99ae_doubleToLongBits_ccdee) (maxL := 2) (ret := (some .long)) (by decide +kernel) rfl ?_
  intro p e s m args below meth c s₁ B hml hv
  have hv2 : args = _ := hv
  subst hv2
  have hx := B.exec
  have hb := B.bytes
  have hr := B.returns
  have hts := atoms_spec (ws := wsJxe99ae_doubleToLongBits_ccdee) B.pre
  have hown : s.vm.findClass RJxe99ae = some m.cls := findClass_of_methodNamed B.named
  have hlocks := B.notSynchronized
  have hl := lv_entry ([.double x0]) (n := 2) (Nat.le_of_ble_eq_true rfl)
  rw [lg_entry_eq]
  generalize (lg_sl ([.double x0]) ++ List.replicate (2 - (lg_sl ([.double x0])).length) Slot.unset).toArray = ls at hl ⊢
  have hl : lv_has ls 2 [(0, .double x0)] := hl
  refine lv_dload_n hx hb dJxe99ae_doubleToLongBits_ccdee_0 rfl (lv_at hl 0 rfl) ?_
  refine pc_0 (As := [.double x0]) (rest := []) (r := .int (fJxe99ae_isNaN_b9ae7 x0)) ⟨hx, hb, hml, hown, hts⟩ (c_Jxe99ae_isNaN_b9ae7 l x0) (va_cwS 1 hts gJxe99ae_doubleToLongBits_ccdee_Jxe99ae_isNaN_b9ae7 rfl rfl rfl hd_Jxe99ae_isNaN_b9ae7 ⟨Nat.le_of_ble_eq_true rfl, Nat.le_of_ble_eq_true rfl⟩) rfl hl.1 rfl (lv_room (Nat.le_of_ble_eq_true rfl)) dJxe99ae_doubleToLongBits_ccdee_1 ⟨Nat.zero_le _, Nat.zero_le _⟩ ?_
  refine lv_if_ne (tgt := 12) hx hb dJxe99ae_doubleToLongBits_ccdee_4 (by decide) (fun c_1 => ?_) (fun c_1 => ?_)
  · refine lv_ldc2 (v := (9221120237041090560)) hx hb hown (hts (.constantLong RJxe99ae 137 (9221120237041090560)) (by decide +kernel)) dJxe99ae_doubleToLongBits_ccdee_12 ?_
    exact W.lret hx hb hr (fun t ht _ => ⟨congrArg (fun z => Outcome.returned (some (Value.long z))) (by unfold fJxe99ae_doubleToLongBits_ccdee; rw [if_neg c_1]), ht⟩) (fun _ h => nomatch h) dJxe99ae_doubleToLongBits_ccdee_15
  · refine lv_dload_n hx hb dJxe99ae_doubleToLongBits_ccdee_7 rfl (lv_at hl 0 rfl) ?_
    refine vn_d2l hx hb (hml.trans hl.1.symm) hown (hts (.methodLink RJxe99ae 134 ⟨"java/lang/Double", "doubleToRawLongBits", "(D)J"⟩) (by decide +kernel)) (hts (.native ⟨"java/lang/Double", "doubleToRawLongBits", "(D)J"⟩) (by decide +kernel)) (hts (.static ⟨"java/lang/Double", "doubleToRawLongBits", "(D)J"⟩) (by decide +kernel)) (hts (.initialized "java/lang/Double") (by decide +kernel)) (Nat.le_of_ble_eq_true rfl) (Nat.le_of_ble_eq_true rfl) dJxe99ae_doubleToLongBits_ccdee_8 ?_
    exact W.lret hx hb hr (fun t ht _ => ⟨congrArg (fun z => Outcome.returned (some (Value.long z))) (by unfold fJxe99ae_doubleToLongBits_ccdee; rw [if_pos c_1]), ht⟩) (fun _ h => nomatch h) dJxe99ae_doubleToLongBits_ccdee_11
def fJxf58ca_floatToIntBits_5c35a (x0 : UInt32) : Int32 :=
  if (fJxf58ca_isNaN_12338 x0) = 0 then
    x0.toInt32
  else
    (2143289344 : Int32)
theorem hd_Jxf58ca_floatToIntBits_5c35a : yJxf58ca_floatToIntBits_5c35a.cls ≠ "java/lang/invoke/MethodHandle" ∧ yJxf58ca_floatToIntBits_5c35a.cls ≠ "java/lang/invoke/VarHandle" ∧ (parseMethodDescriptor yJxf58ca_floatToIntBits_5c35a.desc).map (fun d => d.parameters.length) = some 1 := by decide +kernel
set_option maxHeartbeats 4000000 in
set_option maxRecDepth 100000 in
theorem c_Jxf58ca_floatToIntBits_5c35a (l : Launch) (x0 : UInt32) : Met l yJxf58ca_floatToIntBits_5c35a wsJxf58ca_floatToIntBits_5c35a ({ frames := 1, cells := 0, slots := 0, locals := 20 }) (P0 [.float x0]) (k2_QcV (.int (fJxf58ca_floatToIntBits_5c35a x0))) 0 0 (fun _ => False) := by
  refine va_MetF (cc := cJxf58ca_floatToIntBits_5c35a) (maxL := 1) (ret := (some .int)) (by decide +kernel) rfl ?_
  intro p e s m args below meth c s₁ B hml hv
  have hv2 : args = _ := hv
  subst hv2
  have hx := B.exec
  have hb := B.bytes
  have hr := B.returns
  have hts := atoms_spec (ws := wsJxf58ca_floatToIntBits_5c35a) B.pre
  have hown : s.vm.findClass RJxf58ca = some m.cls := findClass_of_methodNamed B.named
  have hlocks := B.notSynchronized
  have hl := lv_entry ([.float x0]) (n := 1) (Nat.le_of_ble_eq_true rfl)
  rw [lg_entry_eq]
  generalize (lg_sl ([.float x0]) ++ List.replicate (1 - (lg_sl ([.float x0])).length) Slot.unset).toArray = ls at hl ⊢
  have hl : lv_has ls 1 [(0, .float x0)] := hl
  refine lv_fload_n hx hb dJxf58ca_floatToIntBits_5c35a_0 rfl (lv_at hl 0 rfl) ?_
  refine pc_0 (As := [.float x0]) (rest := []) (r := .int (fJxf58ca_isNaN_12338 x0)) ⟨hx, hb, hml, hown, hts⟩ (c_Jxf58ca_isNaN_12338 l x0) (va_cwS 1 hts gJxf58ca_floatToIntBits_5c35a_Jxf58ca_isNaN_12338 rfl rfl rfl hd_Jxf58ca_isNaN_12338 ⟨Nat.le_of_ble_eq_true rfl, Nat.le_of_ble_eq_true rfl⟩) rfl hl.1 rfl (lv_room (Nat.le_of_ble_eq_true rfl)) dJxf58ca_floatToIntBits_5c35a_1 ⟨Nat.zero_le _, Nat.zero_le _⟩ ?_
  refine lv_if_ne (tgt := 12) hx hb dJxf58ca_floatToIntBits_5c35a_4 (by decide) (fun c_1 => ?_) (fun c_1 => ?_)
  · refine lv_ldc (v := (2143289344)) hx hb hown (hts (.constant RJxf58ca 77 (2143289344)) (by decide +kernel)) dJxf58ca_floatToIntBits_5c35a_12 ?_
    exact W.iret hx hb hr (fun t ht _ => ⟨congrArg (fun z => Outcome.returned (some (Value.int z))) (by unfold fJxf58ca_floatToIntBits_5c35a; rw [if_neg c_1]), ht⟩) (fun _ h => nomatch h) dJxf58ca_floatToIntBits_5c35a_14
  · refine lv_fload_n hx hb dJxf58ca_floatToIntBits_5c35a_7 rfl (lv_at hl 0 rfl) ?_
    refine vn_f2i hx hb (hml.trans hl.1.symm) hown (hts (.methodLink RJxf58ca 74 ⟨"java/lang/Float", "floatToRawIntBits", "(F)I"⟩) (by decide +kernel)) (hts (.native ⟨"java/lang/Float", "floatToRawIntBits", "(F)I"⟩) (by decide +kernel)) (hts (.static ⟨"java/lang/Float", "floatToRawIntBits", "(F)I"⟩) (by decide +kernel)) (hts (.initialized "java/lang/Float") (by decide +kernel)) (Nat.le_of_ble_eq_true rfl) (Nat.le_of_ble_eq_true rfl) dJxf58ca_floatToIntBits_5c35a_8 ?_
    exact W.iret hx hb hr (fun t ht _ => ⟨congrArg (fun z => Outcome.returned (some (Value.int z))) (by unfold fJxf58ca_floatToIntBits_5c35a; rw [if_pos c_1]), ht⟩) (fun _ h => nomatch h) dJxf58ca_floatToIntBits_5c35a_11
def fX3_sum (x0 : Int32) (x1 : Int64) (x3 : Int64) : Int64 :=
  if x0 = 0 then
    (fJxf58ca_floatToIntBits_5c35a (FP.fadd x1.toInt32.toUInt32 x3.toInt32.toUInt32)).toInt64
  else
    fJxe99ae_doubleToLongBits_ccdee (FP.dadd x1.toUInt64 x3.toUInt64)
theorem hd_X3_sum : yX3_sum.cls ≠ "java/lang/invoke/MethodHandle" ∧ yX3_sum.cls ≠ "java/lang/invoke/VarHandle" ∧ (parseMethodDescriptor yX3_sum.desc).map (fun d => d.parameters.length) = some 3 := by decide +kernel
set_option maxHeartbeats 4000000 in
set_option maxRecDepth 100000 in
theorem c_X3_sum (l : Launch) (x0 : Int32) (x1 : Int64) (x3 : Int64) (hF : ¬ x0 = 0 → vn_snl2d x1 = false ∧ vn_snl2d x3 = false ∧ vf_n64 (FP.dadd x1.toUInt64 x3.toUInt64)) (hC : x0 = 0 → vn_sni2f x1.toInt32 = false ∧ vn_sni2f x3.toInt32 = false ∧ vf_n32 (FP.fadd x1.toInt32.toUInt32 x3.toInt32.toUInt32)) : Met l yX3_sum wsX3_sum ({ frames := 2, cells := 0, slots := 0, locals := 42 }) (P0 [.int x0, .long x1, .long x3]) (k2_QcV (.long (fX3_sum x0 x1 x3))) 0 0 (fun _ => False) := by
  refine Met.ofW (cc := cX3_sum) (maxL := 5) (ret := (some .long)) (by decide) rfl ?_
  intro p e s m args below meth c s₁ B hml hv
  have hv2 : args = _ := hv
  subst hv2
  have hx := B.exec
  have hb := B.bytes
  have hr := B.returns
  have hts := atoms_spec (ws := wsX3_sum) B.pre
  have hown : s.vm.findClass RX3 = some m.cls := findClass_of_methodNamed B.named
  have hlocks := B.notSynchronized
  have hl := lv_entry ([.int x0, .long x1, .long x3]) (n := 5) (Nat.le_of_ble_eq_true rfl)
  rw [lg_entry_eq]
  generalize (lg_sl ([.int x0, .long x1, .long x3]) ++ List.replicate (5 - (lg_sl ([.int x0, .long x1, .long x3])).length) Slot.unset).toArray = ls at hl ⊢
  have hl : lv_has ls 5 [(0, .int x0), (1, .long x1), (3, .long x3)] := hl
  refine lv_iload_n hx hb dX3_sum_0 rfl (lv_at hl 0 rfl) ?_
  refine lv_if_eq (tgt := 17) hx hb dX3_sum_1 (by decide) (fun c_1 => ?_) (fun c_1 => ?_)
  · refine lv_lload_n hx hb dX3_sum_17 rfl (lv_at hl 1 rfl) ?_
    refine lv_l2i hx hb dX3_sum_18 rfl ?_
    refine vn_i2f hx hb (hml.trans hl.1.symm) hown (hts (.methodLink RX3 39 ⟨"java/lang/Float", "intBitsToFloat", "(I)F"⟩) (by decide +kernel)) (hts (.native ⟨"java/lang/Float", "intBitsToFloat", "(I)F"⟩) (by decide +kernel)) (hts (.static ⟨"java/lang/Float", "intBitsToFloat", "(I)F"⟩) (by decide +kernel)) (hts (.initialized "java/lang/Float") (by decide +kernel)) (hC c_1).1 (Nat.le_of_ble_eq_true rfl) (Nat.le_of_ble_eq_true rfl) dX3_sum_19 ?_
    refine lv_lload_n hx hb dX3_sum_22 rfl (lv_at hl 2 rfl) ?_
    refine lv_l2i hx hb dX3_sum_23 rfl ?_
    refine vn_i2f hx hb (hml.trans hl.1.symm) hown (hts (.methodLink RX3 39 ⟨"java/lang/Float", "intBitsToFloat", "(I)F"⟩) (by decide +kernel)) (hts (.native ⟨"java/lang/Float", "intBitsToFloat", "(I)F"⟩) (by decide +kernel)) (hts (.static ⟨"java/lang/Float", "intBitsToFloat", "(I)F"⟩) (by decide +kernel)) (hts (.initialized "java/lang/Float") (by decide +kernel)) (hC c_1).2.1 (Nat.le_of_ble_eq_true rfl) (Nat.le_of_ble_eq_true rfl) dX3_sum_24 ?_
    refine lv_fadd hx hb dX3_sum_27 (hC c_1).2.2 ?_
    refine pc_0 (As := [.float (FP.fadd x1.toInt32.toUInt32 x3.toInt32.toUInt32)]) (rest := []) (r := .int (fJxf58ca_floatToIntBits_5c35a (FP.fadd x1.toInt32.toUInt32 x3.toInt32.toUInt32))) ⟨hx, hb, hml, hown, hts⟩ (c_Jxf58ca_floatToIntBits_5c35a l (FP.fadd x1.toInt32.toUInt32 x3.toInt32.toUInt32)) (va_cwS 1 hts gX3_sum_Jxf58ca_floatToIntBits_5c35a rfl rfl rfl hd_Jxf58ca_floatToIntBits_5c35a ⟨Nat.le_of_ble_eq_true rfl, Nat.le_of_ble_eq_true rfl⟩) rfl hl.1 rfl (lv_room (Nat.le_of_ble_eq_true rfl)) dX3_sum_28 ⟨Nat.zero_le _, Nat.zero_le _⟩ ?_
    refine lv_i2l hx hb dX3_sum_31 rfl ?_
    exact W.lret hx hb hr (fun t ht _ => ⟨congrArg (fun z => Outcome.returned (some (Value.long z))) (by unfold fX3_sum; rw [if_pos c_1]), ht⟩) (fun _ h => nomatch h) dX3_sum_32
  · refine lv_lload_n hx hb dX3_sum_4 rfl (lv_at hl 1 rfl) ?_
    refine vn_l2d hx hb (hml.trans hl.1.symm) hown (hts (.methodLink RX3 51 ⟨"java/lang/Double", "longBitsToDouble", "(J)D"⟩) (by decide +kernel)) (hts (.native ⟨"java/lang/Double", "longBitsToDouble", "(J)D"⟩) (by decide +kernel)) (hts (.static ⟨"java/lang/Double", "longBitsToDouble", "(J)D"⟩) (by decide +kernel)) (hts (.initialized "java/lang/Double") (by decide +kernel)) (hF c_1).1 (Nat.le_of_ble_eq_true rfl) (Nat.le_of_ble_eq_true rfl) dX3_sum_5 ?_
    refine lv_lload_n hx hb dX3_sum_8 rfl (lv_at hl 2 rfl) ?_
    refine vn_l2d hx hb (hml.trans hl.1.symm) hown (hts (.methodLink RX3 51 ⟨"java/lang/Double", "longBitsToDouble", "(J)D"⟩) (by decide +kernel)) (hts (.native ⟨"java/lang/Double", "longBitsToDouble", "(J)D"⟩) (by decide +kernel)) (hts (.static ⟨"java/lang/Double", "longBitsToDouble", "(J)D"⟩) (by decide +kernel)) (hts (.initialized "java/lang/Double") (by decide +kernel)) (hF c_1).2.1 (Nat.le_of_ble_eq_true rfl) (Nat.le_of_ble_eq_true rfl) dX3_sum_9 ?_
    refine lv_dadd hx hb dX3_sum_12 (hF c_1).2.2 ?_
    refine pc_0 (As := [.double (FP.dadd x1.toUInt64 x3.toUInt64)]) (rest := []) (r := .long (fJxe99ae_doubleToLongBits_ccdee (FP.dadd x1.toUInt64 x3.toUInt64))) ⟨hx, hb, hml, hown, hts⟩ (c_Jxe99ae_doubleToLongBits_ccdee l (FP.dadd x1.toUInt64 x3.toUInt64)) (va_cwS 1 hts gX3_sum_Jxe99ae_doubleToLongBits_ccdee rfl rfl rfl hd_Jxe99ae_doubleToLongBits_ccdee ⟨Nat.le_of_ble_eq_true rfl, Nat.le_of_ble_eq_true rfl⟩) rfl hl.1 rfl (lv_room (Nat.le_of_ble_eq_true rfl)) dX3_sum_13 ⟨Nat.zero_le _, Nat.zero_le _⟩ ?_
    exact W.lret hx hb hr (fun t ht _ => ⟨congrArg (fun z => Outcome.returned (some (Value.long z))) (by unfold fX3_sum; rw [if_neg c_1]), ht⟩) (fun _ h => nomatch h) dX3_sum_16
def fX3_wideBits (x0 : Int32) (x1 : Int64) : Int64 :=
  if x0 = 0 then
    fJxe99ae_doubleToLongBits_ccdee (FP.f2d x1.toInt32.toUInt32)
  else
    x1
theorem hd_X3_wideBits : yX3_wideBits.cls ≠ "java/lang/invoke/MethodHandle" ∧ yX3_wideBits.cls ≠ "java/lang/invoke/VarHandle" ∧ (parseMethodDescriptor yX3_wideBits.desc).map (fun d => d.parameters.length) = some 2 := by decide +kernel
set_option maxHeartbeats 4000000 in
set_option maxRecDepth 100000 in
theorem c_X3_wideBits (l : Launch) (x0 : Int32) (x1 : Int64) (hC : x0 = 0 → vn_sni2f x1.toInt32 = false ∧ vf_n64 (FP.f2d x1.toInt32.toUInt32)) : Met l yX3_wideBits wsX3_wideBits ({ frames := 2, cells := 0, slots := 0, locals := 42 }) (P0 [.int x0, .long x1]) (k2_QcV (.long (fX3_wideBits x0 x1))) 0 0 (fun _ => False) := by
  refine Met.ofW (cc := cX3_wideBits) (maxL := 3) (ret := (some .long)) (by decide) rfl ?_
  intro p e s m args below meth c s₁ B hml hv
  have hv2 : args = _ := hv
  subst hv2
  have hx := B.exec
  have hb := B.bytes
  have hr := B.returns
  have hts := atoms_spec (ws := wsX3_wideBits) B.pre
  have hown : s.vm.findClass RX3 = some m.cls := findClass_of_methodNamed B.named
  have hlocks := B.notSynchronized
  have hl := lv_entry ([.int x0, .long x1]) (n := 3) (Nat.le_of_ble_eq_true rfl)
  rw [lg_entry_eq]
  generalize (lg_sl ([.int x0, .long x1]) ++ List.replicate (3 - (lg_sl ([.int x0, .long x1])).length) Slot.unset).toArray = ls at hl ⊢
  have hl : lv_has ls 3 [(0, .int x0), (1, .long x1)] := hl
  refine lv_iload_n hx hb dX3_wideBits_0 rfl (lv_at hl 0 rfl) ?_
  refine lv_if_eq (tgt := 8) hx hb dX3_wideBits_1 (by decide) (fun c_1 => ?_) (fun c_1 => ?_)
  · refine lv_lload_n hx hb dX3_wideBits_8 rfl (lv_at hl 1 rfl) ?_
    refine lv_l2i hx hb dX3_wideBits_9 rfl ?_
    refine vn_i2f hx hb (hml.trans hl.1.symm) hown (hts (.methodLink RX3 39 ⟨"java/lang/Float", "intBitsToFloat", "(I)F"⟩) (by decide +kernel)) (hts (.native ⟨"java/lang/Float", "intBitsToFloat", "(I)F"⟩) (by decide +kernel)) (hts (.static ⟨"java/lang/Float", "intBitsToFloat", "(I)F"⟩) (by decide +kernel)) (hts (.initialized "java/lang/Float") (by decide +kernel)) (hC c_1).1 (Nat.le_of_ble_eq_true rfl) (Nat.le_of_ble_eq_true rfl) dX3_wideBits_10 ?_
    refine lv_f2d hx hb dX3_wideBits_13 (hC c_1).2 ?_
    refine pc_0 (As := [.double (FP.f2d x1.toInt32.toUInt32)]) (rest := []) (r := .long (fJxe99ae_doubleToLongBits_ccdee (FP.f2d x1.toInt32.toUInt32))) ⟨hx, hb, hml, hown, hts⟩ (c_Jxe99ae_doubleToLongBits_ccdee l (FP.f2d x1.toInt32.toUInt32)) (va_cwS 1 hts gX3_wideBits_Jxe99ae_doubleToLongBits_ccdee rfl rfl rfl hd_Jxe99ae_doubleToLongBits_ccdee ⟨Nat.le_of_ble_eq_true rfl, Nat.le_of_ble_eq_true rfl⟩) rfl hl.1 rfl (lv_room (Nat.le_of_ble_eq_true rfl)) dX3_wideBits_14 ⟨Nat.zero_le _, Nat.zero_le _⟩ ?_
    exact W.lret hx hb hr (fun t ht _ => ⟨congrArg (fun z => Outcome.returned (some (Value.long z))) (by unfold fX3_wideBits; rw [if_pos c_1]), ht⟩) (fun _ h => nomatch h) dX3_wideBits_17
  · refine lv_lload_n hx hb dX3_wideBits_4 rfl (lv_at hl 1 rfl) ?_
    refine lv_goto (tgt := 17) hx hb dX3_wideBits_5 (by decide) ?_
    exact W.lret hx hb hr (fun t ht _ => ⟨congrArg (fun z => Outcome.returned (some (Value.long z))) (by unfold fX3_wideBits; rw [if_neg c_1]), ht⟩) (fun _ h => nomatch h) dX3_wideBits_17
def fX3_whole (x0 : UInt64) (x2 : Int32) (x3 : Int32) : UInt64 :=
  if (Op.cmpValue (FP.dcmp x0 (4841369599423283200 : UInt64)) .l) < 0 then
    if x3 = 0 then
      if x2 = 0 then
        FP.l2d (FP.d2l x0)
      else
        if (Op.cmpValue (FP.dcmp (FP.dsub x0 (FP.l2d (FP.d2l x0))) FP.dconst0) .l) ≤ 0 then
          FP.l2d (FP.d2l x0)
        else
          FP.dadd (FP.l2d (FP.d2l x0)) FP.dconst1
    else
      if x3 = (1 : Int32) then
        if x2 = 0 then
          if (Op.cmpValue (FP.dcmp (FP.dsub x0 (FP.l2d (FP.d2l x0))) FP.dconst0) .l) ≤ 0 then
            FP.l2d (FP.d2l x0)
          else
            FP.dadd (FP.l2d (FP.d2l x0)) FP.dconst1
        else
          FP.l2d (FP.d2l x0)
      else
        if 0 < (Op.cmpValue (FP.dcmp (FP.dsub x0 (FP.l2d (FP.d2l x0))) (4602678819172646912 : UInt64)) .l) then
          FP.dadd (FP.l2d (FP.d2l x0)) FP.dconst1
        else
          if (Op.cmpValue (FP.dcmp (FP.dsub x0 (FP.l2d (FP.d2l x0))) (4602678819172646912 : UInt64)) .l) = 0 then
            if ((FP.d2l x0) &&& (1 : Int64)) = (1 : Int64) then
              FP.dadd (FP.l2d (FP.d2l x0)) FP.dconst1
            else
              FP.l2d (FP.d2l x0)
          else
            FP.l2d (FP.d2l x0)
  else
    x0
theorem hd_X3_whole : yX3_whole.cls ≠ "java/lang/invoke/MethodHandle" ∧ yX3_whole.cls ≠ "java/lang/invoke/VarHandle" ∧ (parseMethodDescriptor yX3_whole.desc).map (fun d => d.parameters.length) = some 3 := by decide +kernel
set_option maxHeartbeats 4000000 in
set_option maxRecDepth 100000 in
theorem c_X3_whole (l : Launch) (x0 : UInt64) (x2 : Int32) (x3 : Int32) (h : Op.cmpValue (FP.dcmp x0 4841369599423283200) .l < 0 → vf_n64 (FP.dsub x0 (FP.l2d (FP.d2l x0))) ∧ vf_n64 (FP.dadd (FP.l2d (FP.d2l x0)) FP.dconst1)) : Met l yX3_whole wsX3_whole ({ frames := 0, cells := 0, slots := 0, locals := 0 }) (P0 [.double x0, .int x2, .int x3]) (k2_QcV (.double (fX3_whole x0 x2 x3))) 0 0 (fun _ => False) := by
  refine Met.ofW (cc := cX3_whole) (maxL := 9) (ret := (some .double)) (by decide) rfl ?_
  intro p e s m args below meth c s₁ B hml hv
  have hv2 : args = _ := hv
  subst hv2
  have hx := B.exec
  have hb := B.bytes
  have hr := B.returns
  have hts := atoms_spec (ws := wsX3_whole) B.pre
  have hown : s.vm.findClass RX3 = some m.cls := findClass_of_methodNamed B.named
  have hlocks := B.notSynchronized
  have hl := lv_entry ([.double x0, .int x2, .int x3]) (n := 9) (Nat.le_of_ble_eq_true rfl)
  rw [lg_entry_eq]
  generalize (lg_sl ([.double x0, .int x2, .int x3]) ++ List.replicate (9 - (lg_sl ([.double x0, .int x2, .int x3])).length) Slot.unset).toArray = ls at hl ⊢
  have hl : lv_has ls 9 [(0, .double x0), (2, .int x2), (3, .int x3)] := hl
  refine lv_dload_n hx hb dX3_whole_0 rfl (lv_at hl 0 rfl) ?_
  refine lv_ldc2d (v := (4841369599423283200)) hx hb hown (hts (.constantDouble RX3 123 (4841369599423283200)) (by decide +kernel)) dX3_whole_1 ?_
  refine lv_dcmp hx hb dX3_whole_4 ?_
  refine lv_if_lt (tgt := 10) hx hb dX3_whole_5 (by decide) (fun c_1 => ?_) (fun c_1 => ?_)
  · refine lv_dload_n hx hb dX3_whole_10 rfl (lv_at hl 0 rfl) ?_
    refine lv_d2l hx hb dX3_whole_11 ?_
    refine lv_lstore (lv' := [(4, .long (FP.d2l x0)), (0, .double x0), (2, .int x2), (3, .int x3)]) hx hb dX3_whole_12 hl (by decide) rfl (fun ls hl => ?_)
    refine lv_dload_n hx hb dX3_whole_14 rfl (lv_at hl 1 rfl) ?_
    refine lv_lload hx hb dX3_whole_15 (lv_at hl 0 rfl) ?_
    refine lv_l2d hx hb dX3_whole_17 ?_
    refine lv_dsub hx hb dX3_whole_18 (h c_1).1 ?_
    refine lv_dstore (lv' := [(6, .double (FP.dsub x0 (FP.l2d (FP.d2l x0)))), (4, .long (FP.d2l x0)), (0, .double x0), (2, .int x2), (3, .int x3)]) hx hb dX3_whole_19 hl (by decide) rfl (fun ls hl => ?_)
    refine lv_iload_n hx hb dX3_whole_21 rfl (lv_at hl 4 rfl) ?_
    refine lv_if_ne (tgt := 44) hx hb dX3_whole_22 (by decide) (fun c_2 => ?_) (fun c_2 => ?_)
    · refine lv_iload_n hx hb dX3_whole_44 rfl (lv_at hl 4 rfl) ?_
      refine lv_iconst (v := 1) hx hb dX3_whole_45 (by decide) ?_
      refine lv_icmp_ne (tgt := 68) hx hb dX3_whole_46 (by decide) (fun c_3 => ?_) (fun c_3 => ?_)
      · refine lv_dload hx hb dX3_whole_68 (lv_at hl 0 rfl) ?_
        refine lv_ldc2d (v := (4602678819172646912)) hx hb hown (hts (.constantDouble RX3 125 (4602678819172646912)) (by decide +kernel)) dX3_whole_70 ?_
        refine lv_dcmp hx hb dX3_whole_73 ?_
        refine lv_if_gt (tgt := 95) hx hb dX3_whole_74 (by decide) (fun c_4 => ?_) (fun c_4 => ?_)
        · refine lv_iconst (v := 1) hx hb dX3_whole_95 (by decide) ?_
          refine lv_goto (tgt := 100) hx hb dX3_whole_96 (by decide) ?_
          refine lv_istore (lv' := [(8, .int (1 : Int32)), (6, .double (FP.dsub x0 (FP.l2d (FP.d2l x0)))), (4, .long (FP.d2l x0)), (0, .double x0), (2, .int x2), (3, .int x3)]) hx hb dX3_whole_100 hl (by decide) rfl (fun ls hl => ?_)
          refine lv_iload hx hb dX3_whole_102 (lv_at hl 0 rfl) ?_
          refine lv_if_eq (tgt := 115) hx hb dX3_whole_104 (by decide) (fun h9 => absurd h9 (by decide)) (fun _ => ?_)
          refine lv_lload hx hb dX3_whole_107 (lv_at hl 2 rfl) ?_
          refine lv_l2d hx hb dX3_whole_109 ?_
          refine lv_dconst1 hx hb dX3_whole_110 ?_
          refine lv_dadd hx hb dX3_whole_111 (h c_1).2 ?_
          refine lv_goto (tgt := 118) hx hb dX3_whole_112 (by decide) ?_
          exact W.dret hx hb hr (fun t ht _ => ⟨congrArg (fun z => Outcome.returned (some (Value.double z))) (by unfold fX3_whole; rw [if_pos c_1, if_neg c_2, if_neg c_3, if_pos c_4]), ht⟩) (fun _ h => nomatch h) dX3_whole_118
        · refine lv_dload hx hb dX3_whole_77 (lv_at hl 0 rfl) ?_
          refine lv_ldc2d (v := (4602678819172646912)) hx hb hown (hts (.constantDouble RX3 125 (4602678819172646912)) (by decide +kernel)) dX3_whole_79 ?_
          refine lv_dcmp hx hb dX3_whole_82 ?_
          refine lv_if_ne (tgt := 99) hx hb dX3_whole_83 (by decide) (fun c_5 => ?_) (fun c_5 => ?_)
          · refine lv_iconst (v := 0) hx hb dX3_whole_99 (by decide) ?_
            refine lv_istore (lv' := [(8, .int (0 : Int32)), (6, .double (FP.dsub x0 (FP.l2d (FP.d2l x0)))), (4, .long (FP.d2l x0)), (0, .double x0), (2, .int x2), (3, .int x3)]) hx hb dX3_whole_100 hl (by decide) rfl (fun ls hl => ?_)
            refine lv_iload hx hb dX3_whole_102 (lv_at hl 0 rfl) ?_
            refine lv_if_eq (tgt := 115) hx hb dX3_whole_104 (by decide) (fun _ => ?_) (fun h9 => absurd h9 (by decide))
            refine lv_lload hx hb dX3_whole_115 (lv_at hl 2 rfl) ?_
            refine lv_l2d hx hb dX3_whole_117 ?_
            exact W.dret hx hb hr (fun t ht _ => ⟨congrArg (fun z => Outcome.returned (some (Value.double z))) (by unfold fX3_whole; rw [if_pos c_1, if_neg c_2, if_neg c_3, if_neg c_4, if_neg c_5]), ht⟩) (fun _ h => nomatch h) dX3_whole_118
          · refine lv_lload hx hb dX3_whole_86 (lv_at hl 1 rfl) ?_
            refine lv_lconst (v := 1) hx hb dX3_whole_88 (by decide) ?_
            refine lv_land hx hb dX3_whole_89 ?_
            refine lv_lconst (v := 1) hx hb dX3_whole_90 (by decide) ?_
            refine pl_ne (tgt := 99) hx hb dX3_whole_91 dX3_whole_92 (by decide) (fun c_6 => ?_) (fun c_6 => ?_)
            · refine lv_iconst (v := 0) hx hb dX3_whole_99 (by decide) ?_
              refine lv_istore (lv' := [(8, .int (0 : Int32)), (6, .double (FP.dsub x0 (FP.l2d (FP.d2l x0)))), (4, .long (FP.d2l x0)), (0, .double x0), (2, .int x2), (3, .int x3)]) hx hb dX3_whole_100 hl (by decide) rfl (fun ls hl => ?_)
              refine lv_iload hx hb dX3_whole_102 (lv_at hl 0 rfl) ?_
              refine lv_if_eq (tgt := 115) hx hb dX3_whole_104 (by decide) (fun _ => ?_) (fun h9 => absurd h9 (by decide))
              refine lv_lload hx hb dX3_whole_115 (lv_at hl 2 rfl) ?_
              refine lv_l2d hx hb dX3_whole_117 ?_
              exact W.dret hx hb hr (fun t ht _ => ⟨congrArg (fun z => Outcome.returned (some (Value.double z))) (by unfold fX3_whole; rw [if_pos c_1, if_neg c_2, if_neg c_3, if_neg c_4, if_pos c_5, if_neg c_6]), ht⟩) (fun _ h => nomatch h) dX3_whole_118
            · refine lv_iconst (v := 1) hx hb dX3_whole_95 (by decide) ?_
              refine lv_goto (tgt := 100) hx hb dX3_whole_96 (by decide) ?_
              refine lv_istore (lv' := [(8, .int (1 : Int32)), (6, .double (FP.dsub x0 (FP.l2d (FP.d2l x0)))), (4, .long (FP.d2l x0)), (0, .double x0), (2, .int x2), (3, .int x3)]) hx hb dX3_whole_100 hl (by decide) rfl (fun ls hl => ?_)
              refine lv_iload hx hb dX3_whole_102 (lv_at hl 0 rfl) ?_
              refine lv_if_eq (tgt := 115) hx hb dX3_whole_104 (by decide) (fun h9 => absurd h9 (by decide)) (fun _ => ?_)
              refine lv_lload hx hb dX3_whole_107 (lv_at hl 2 rfl) ?_
              refine lv_l2d hx hb dX3_whole_109 ?_
              refine lv_dconst1 hx hb dX3_whole_110 ?_
              refine lv_dadd hx hb dX3_whole_111 (h c_1).2 ?_
              refine lv_goto (tgt := 118) hx hb dX3_whole_112 (by decide) ?_
              exact W.dret hx hb hr (fun t ht _ => ⟨congrArg (fun z => Outcome.returned (some (Value.double z))) (by unfold fX3_whole; rw [if_pos c_1, if_neg c_2, if_neg c_3, if_neg c_4, if_pos c_5, if_pos c_6]), ht⟩) (fun _ h => nomatch h) dX3_whole_118
      · refine lv_iload_n hx hb dX3_whole_49 rfl (lv_at hl 3 rfl) ?_
        refine lv_if_ne (tgt := 64) hx hb dX3_whole_50 (by decide) (fun c_7 => ?_) (fun c_7 => ?_)
        · refine lv_iconst (v := 0) hx hb dX3_whole_64 (by decide) ?_
          refine lv_goto (tgt := 100) hx hb dX3_whole_65 (by decide) ?_
          refine lv_istore (lv' := [(8, .int (0 : Int32)), (6, .double (FP.dsub x0 (FP.l2d (FP.d2l x0)))), (4, .long (FP.d2l x0)), (0, .double x0), (2, .int x2), (3, .int x3)]) hx hb dX3_whole_100 hl (by decide) rfl (fun ls hl => ?_)
          refine lv_iload hx hb dX3_whole_102 (lv_at hl 0 rfl) ?_
          refine lv_if_eq (tgt := 115) hx hb dX3_whole_104 (by decide) (fun _ => ?_) (fun h9 => absurd h9 (by decide))
          refine lv_lload hx hb dX3_whole_115 (lv_at hl 2 rfl) ?_
          refine lv_l2d hx hb dX3_whole_117 ?_
          exact W.dret hx hb hr (fun t ht _ => ⟨congrArg (fun z => Outcome.returned (some (Value.double z))) (by unfold fX3_whole; rw [if_pos c_1, if_neg c_2, if_pos c_3, if_neg c_7]), ht⟩) (fun _ h => nomatch h) dX3_whole_118
        · refine lv_dload hx hb dX3_whole_53 (lv_at hl 0 rfl) ?_
          refine lv_dconst0 hx hb dX3_whole_55 ?_
          refine lv_dcmp hx hb dX3_whole_56 ?_
          refine lv_if_le (tgt := 64) hx hb dX3_whole_57 (by decide) (fun c_8 => ?_) (fun c_8 => ?_)
          · refine lv_iconst (v := 0) hx hb dX3_whole_64 (by decide) ?_
            refine lv_goto (tgt := 100) hx hb dX3_whole_65 (by decide) ?_
            refine lv_istore (lv' := [(8, .int (0 : Int32)), (6, .double (FP.dsub x0 (FP.l2d (FP.d2l x0)))), (4, .long (FP.d2l x0)), (0, .double x0), (2, .int x2), (3, .int x3)]) hx hb dX3_whole_100 hl (by decide) rfl (fun ls hl => ?_)
            refine lv_iload hx hb dX3_whole_102 (lv_at hl 0 rfl) ?_
            refine lv_if_eq (tgt := 115) hx hb dX3_whole_104 (by decide) (fun _ => ?_) (fun h9 => absurd h9 (by decide))
            refine lv_lload hx hb dX3_whole_115 (lv_at hl 2 rfl) ?_
            refine lv_l2d hx hb dX3_whole_117 ?_
            exact W.dret hx hb hr (fun t ht _ => ⟨congrArg (fun z => Outcome.returned (some (Value.double z))) (by unfold fX3_whole; rw [if_pos c_1, if_neg c_2, if_pos c_3, if_pos c_7, if_pos c_8]), ht⟩) (fun _ h => nomatch h) dX3_whole_118
          · refine lv_iconst (v := 1) hx hb dX3_whole_60 (by decide) ?_
            refine lv_goto (tgt := 100) hx hb dX3_whole_61 (by decide) ?_
            refine lv_istore (lv' := [(8, .int (1 : Int32)), (6, .double (FP.dsub x0 (FP.l2d (FP.d2l x0)))), (4, .long (FP.d2l x0)), (0, .double x0), (2, .int x2), (3, .int x3)]) hx hb dX3_whole_100 hl (by decide) rfl (fun ls hl => ?_)
            refine lv_iload hx hb dX3_whole_102 (lv_at hl 0 rfl) ?_
            refine lv_if_eq (tgt := 115) hx hb dX3_whole_104 (by decide) (fun h9 => absurd h9 (by decide)) (fun _ => ?_)
            refine lv_lload hx hb dX3_whole_107 (lv_at hl 2 rfl) ?_
            refine lv_l2d hx hb dX3_whole_109 ?_
            refine lv_dconst1 hx hb dX3_whole_110 ?_
            refine lv_dadd hx hb dX3_whole_111 (h c_1).2 ?_
            refine lv_goto (tgt := 118) hx hb dX3_whole_112 (by decide) ?_
            exact W.dret hx hb hr (fun t ht _ => ⟨congrArg (fun z => Outcome.returned (some (Value.double z))) (by unfold fX3_whole; rw [if_pos c_1, if_neg c_2, if_pos c_3, if_pos c_7, if_neg c_8]), ht⟩) (fun _ h => nomatch h) dX3_whole_118
    · refine lv_iload_n hx hb dX3_whole_25 rfl (lv_at hl 3 rfl) ?_
      refine lv_if_eq (tgt := 40) hx hb dX3_whole_26 (by decide) (fun c_9 => ?_) (fun c_9 => ?_)
      · refine lv_iconst (v := 0) hx hb dX3_whole_40 (by decide) ?_
        refine lv_goto (tgt := 100) hx hb dX3_whole_41 (by decide) ?_
        refine lv_istore (lv' := [(8, .int (0 : Int32)), (6, .double (FP.dsub x0 (FP.l2d (FP.d2l x0)))), (4, .long (FP.d2l x0)), (0, .double x0), (2, .int x2), (3, .int x3)]) hx hb dX3_whole_100 hl (by decide) rfl (fun ls hl => ?_)
        refine lv_iload hx hb dX3_whole_102 (lv_at hl 0 rfl) ?_
        refine lv_if_eq (tgt := 115) hx hb dX3_whole_104 (by decide) (fun _ => ?_) (fun h9 => absurd h9 (by decide))
        refine lv_lload hx hb dX3_whole_115 (lv_at hl 2 rfl) ?_
        refine lv_l2d hx hb dX3_whole_117 ?_
        exact W.dret hx hb hr (fun t ht _ => ⟨congrArg (fun z => Outcome.returned (some (Value.double z))) (by unfold fX3_whole; rw [if_pos c_1, if_pos c_2, if_pos c_9]), ht⟩) (fun _ h => nomatch h) dX3_whole_118
      · refine lv_dload hx hb dX3_whole_29 (lv_at hl 0 rfl) ?_
        refine lv_dconst0 hx hb dX3_whole_31 ?_
        refine lv_dcmp hx hb dX3_whole_32 ?_
        refine lv_if_le (tgt := 40) hx hb dX3_whole_33 (by decide) (fun c_10 => ?_) (fun c_10 => ?_)
        · refine lv_iconst (v := 0) hx hb dX3_whole_40 (by decide) ?_
          refine lv_goto (tgt := 100) hx hb dX3_whole_41 (by decide) ?_
          refine lv_istore (lv' := [(8, .int (0 : Int32)), (6, .double (FP.dsub x0 (FP.l2d (FP.d2l x0)))), (4, .long (FP.d2l x0)), (0, .double x0), (2, .int x2), (3, .int x3)]) hx hb dX3_whole_100 hl (by decide) rfl (fun ls hl => ?_)
          refine lv_iload hx hb dX3_whole_102 (lv_at hl 0 rfl) ?_
          refine lv_if_eq (tgt := 115) hx hb dX3_whole_104 (by decide) (fun _ => ?_) (fun h9 => absurd h9 (by decide))
          refine lv_lload hx hb dX3_whole_115 (lv_at hl 2 rfl) ?_
          refine lv_l2d hx hb dX3_whole_117 ?_
          exact W.dret hx hb hr (fun t ht _ => ⟨congrArg (fun z => Outcome.returned (some (Value.double z))) (by unfold fX3_whole; rw [if_pos c_1, if_pos c_2, if_neg c_9, if_pos c_10]), ht⟩) (fun _ h => nomatch h) dX3_whole_118
        · refine lv_iconst (v := 1) hx hb dX3_whole_36 (by decide) ?_
          refine lv_goto (tgt := 100) hx hb dX3_whole_37 (by decide) ?_
          refine lv_istore (lv' := [(8, .int (1 : Int32)), (6, .double (FP.dsub x0 (FP.l2d (FP.d2l x0)))), (4, .long (FP.d2l x0)), (0, .double x0), (2, .int x2), (3, .int x3)]) hx hb dX3_whole_100 hl (by decide) rfl (fun ls hl => ?_)
          refine lv_iload hx hb dX3_whole_102 (lv_at hl 0 rfl) ?_
          refine lv_if_eq (tgt := 115) hx hb dX3_whole_104 (by decide) (fun h9 => absurd h9 (by decide)) (fun _ => ?_)
          refine lv_lload hx hb dX3_whole_107 (lv_at hl 2 rfl) ?_
          refine lv_l2d hx hb dX3_whole_109 ?_
          refine lv_dconst1 hx hb dX3_whole_110 ?_
          refine lv_dadd hx hb dX3_whole_111 (h c_1).2 ?_
          refine lv_goto (tgt := 118) hx hb dX3_whole_112 (by decide) ?_
          exact W.dret hx hb hr (fun t ht _ => ⟨congrArg (fun z => Outcome.returned (some (Value.double z))) (by unfold fX3_whole; rw [if_pos c_1, if_pos c_2, if_neg c_9, if_neg c_10]), ht⟩) (fun _ h => nomatch h) dX3_whole_118
  · refine lv_dload_n hx hb dX3_whole_8 rfl (lv_at hl 0 rfl) ?_
    exact W.dret hx hb hr (fun t ht _ => ⟨congrArg (fun z => Outcome.returned (some (Value.double z))) (by unfold fX3_whole; rw [if_neg c_1]), ht⟩) (fun _ h => nomatch h) dX3_whole_9
