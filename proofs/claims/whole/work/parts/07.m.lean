def fX2_tallied (x0 : Int32) (x1 : Int64) (x3 : Int64) : Int64 :=
  if x0 = 0 then
    x3
  else
    if x0 = 1 then
      if x3 < x1 then x1 else x3
    else
      if x0 = 2 then
        if x3 < x1 then x3 else x1
      else
        if x0 = 3 then
          if 0 < x3 then x3 else -x3
        else
          (if 0 < x1 then x1 else -x1) - (if 0 < x3 then x3 else -x3)
theorem hd_X2_tallied : yX2_tallied.cls ≠ "java/lang/invoke/MethodHandle" ∧ yX2_tallied.cls ≠ "java/lang/invoke/VarHandle" ∧ (parseMethodDescriptor yX2_tallied.desc).map (fun d => d.parameters.length) = some 3 := by decide +kernel
set_option maxHeartbeats 4000000 in
set_option maxRecDepth 100000 in
theorem c_X2_tallied (l : Launch) (x0 : Int32) (x1 : Int64) (x3 : Int64) : Met l yX2_tallied wsX2_tallied ({ frames := 1, cells := 0, slots := 0, locals := 15 }) (P0 [.int x0, .long x1, .long x3]) (k2_QcV (.long (fX2_tallied x0 x1 x3))) 0 0 (fun _ => False) := by
  refine Met.ofW (cc := cX2_tallied) (maxL := 5) (ret := (some .long)) (by decide) rfl ?_
  intro p e s m args below meth c s₁ B hml hv
  have hv2 : args = _ := hv
  subst hv2
  have hx := B.exec
  have hb := B.bytes
  have hr := B.returns
  have hts := atoms_spec (ws := wsX2_tallied) B.pre
  have hown : s.vm.findClass RX2 = some m.cls := findClass_of_methodNamed B.named
  have hlocks := B.notSynchronized
  have hl := lv_entry ([.int x0, .long x1, .long x3]) (n := 5) (Nat.le_of_ble_eq_true rfl)
  rw [lg_entry_eq]
  generalize (lg_sl ([.int x0, .long x1, .long x3]) ++ List.replicate (5 - (lg_sl ([.int x0, .long x1, .long x3])).length) Slot.unset).toArray = ls at hl ⊢
  have hl : lv_has ls 5 [(0, .int x0), (1, .long x1), (3, .long x3)] := hl
  refine lv_iload_n hx hb dX2_tallied_0 rfl (lv_at hl 0 rfl) ?_
  by_cases c_1 : x0 = 0
  · refine lv_tableIn (tgt := 32) (off := 31) hx hb dX2_tallied_1 (by rw [c_1]; decide) (by rw [c_1]; decide) (by rw [c_1]; rfl) (by decide) ?_
    refine lv_lload_n hx hb dX2_tallied_32 rfl (lv_at hl 2 rfl) ?_
    exact W.lret hx hb hr (fun t ht _ => ⟨congrArg (fun z => Outcome.returned (some (Value.long z))) (by unfold fX2_tallied; rw [if_pos c_1]), ht⟩) (fun _ h => nomatch h) dX2_tallied_33
  · by_cases c_2 : x0 = 1
    · refine lv_tableIn (tgt := 34) (off := 33) hx hb dX2_tallied_1 (by rw [c_2]; decide) (by rw [c_2]; decide) (by rw [c_2]; rfl) (by decide) ?_
      refine lv_lload_n hx hb dX2_tallied_34 rfl (lv_at hl 1 rfl) ?_
      refine lv_lload_n hx hb dX2_tallied_35 rfl (lv_at hl 2 rfl) ?_
      refine va_mmax_long hx hb (hml.trans hl.1.symm) hown (hts (.methodLink RX2 133 Lib.MathLoose.max_long.x) (by decide +kernel)) (hts (.static Lib.MathLoose.max_long.x) (by decide +kernel)) (hts (.initialized "java/lang/Math") (by decide +kernel)) (hts (.code Lib.MathLoose.max_long.x Lib.MathLoose.max_long.code 4 (some .long)) (by decide +kernel)) (Nat.le_of_ble_eq_true rfl) (Nat.le_of_ble_eq_true rfl) (Nat.zero_le _) (Nat.zero_le _) dX2_tallied_36 ?_
      exact W.lret hx hb hr (fun t ht _ => ⟨congrArg (fun z => Outcome.returned (some (Value.long z))) (by unfold fX2_tallied; rw [if_neg c_1, if_pos c_2]), ht⟩) (fun _ h => nomatch h) dX2_tallied_39
    · by_cases c_3 : x0 = 2
      · refine lv_tableIn (tgt := 40) (off := 39) hx hb dX2_tallied_1 (by rw [c_3]; decide) (by rw [c_3]; decide) (by rw [c_3]; rfl) (by decide) ?_
        refine lv_lload_n hx hb dX2_tallied_40 rfl (lv_at hl 1 rfl) ?_
        refine lv_lload_n hx hb dX2_tallied_41 rfl (lv_at hl 2 rfl) ?_
        refine va_mmin_long hx hb (hml.trans hl.1.symm) hown (hts (.methodLink RX2 128 Lib.MathLoose.min_long.x) (by decide +kernel)) (hts (.static Lib.MathLoose.min_long.x) (by decide +kernel)) (hts (.initialized "java/lang/Math") (by decide +kernel)) (hts (.code Lib.MathLoose.min_long.x Lib.MathLoose.min_long.code 4 (some .long)) (by decide +kernel)) (Nat.le_of_ble_eq_true rfl) (Nat.le_of_ble_eq_true rfl) (Nat.zero_le _) (Nat.zero_le _) dX2_tallied_42 ?_
        exact W.lret hx hb hr (fun t ht _ => ⟨congrArg (fun z => Outcome.returned (some (Value.long z))) (by unfold fX2_tallied; rw [if_neg c_1, if_neg c_2, if_pos c_3]), ht⟩) (fun _ h => nomatch h) dX2_tallied_45
      · by_cases c_4 : x0 = 3
        · refine lv_tableIn (tgt := 46) (off := 45) hx hb dX2_tallied_1 (by rw [c_4]; decide) (by rw [c_4]; decide) (by rw [c_4]; rfl) (by decide) ?_
          refine lv_lload_n hx hb dX2_tallied_46 rfl (lv_at hl 2 rfl) ?_
          refine va_mabs_long hx hb (hml.trans hl.1.symm) hown (hts (.methodLink RX2 175 Lib.MathLoose.abs_long.x) (by decide +kernel)) (hts (.static Lib.MathLoose.abs_long.x) (by decide +kernel)) (hts (.initialized "java/lang/Math") (by decide +kernel)) (hts (.code Lib.MathLoose.abs_long.x Lib.MathLoose.abs_long.code 2 (some .long)) (by decide +kernel)) (Nat.le_of_ble_eq_true rfl) (Nat.le_of_ble_eq_true rfl) (Nat.zero_le _) (Nat.zero_le _) dX2_tallied_47 ?_
          exact W.lret hx hb hr (fun t ht _ => ⟨congrArg (fun z => Outcome.returned (some (Value.long z))) (by unfold fX2_tallied; rw [if_neg c_1, if_neg c_2, if_neg c_3, if_pos c_4]), ht⟩) (fun _ h => nomatch h) dX2_tallied_50
        · refine lv_tableOut (tgt := 51) hx hb dX2_tallied_1 (by have h0 := lv_neT c_1 (a := 0) rfl; have h1 := lv_neT c_2 (a := 1) rfl; have h2 := lv_neT c_3 (a := 2) rfl; have h3 := lv_neT c_4 (a := 3) rfl; omega) (by decide) ?_
          refine lv_lload_n hx hb dX2_tallied_51 rfl (lv_at hl 1 rfl) ?_
          refine va_mabs_long hx hb (hml.trans hl.1.symm) hown (hts (.methodLink RX2 175 Lib.MathLoose.abs_long.x) (by decide +kernel)) (hts (.static Lib.MathLoose.abs_long.x) (by decide +kernel)) (hts (.initialized "java/lang/Math") (by decide +kernel)) (hts (.code Lib.MathLoose.abs_long.x Lib.MathLoose.abs_long.code 2 (some .long)) (by decide +kernel)) (Nat.le_of_ble_eq_true rfl) (Nat.le_of_ble_eq_true rfl) (Nat.zero_le _) (Nat.zero_le _) dX2_tallied_52 ?_
          refine lv_lload_n hx hb dX2_tallied_55 rfl (lv_at hl 2 rfl) ?_
          refine va_mabs_long hx hb (hml.trans hl.1.symm) hown (hts (.methodLink RX2 175 Lib.MathLoose.abs_long.x) (by decide +kernel)) (hts (.static Lib.MathLoose.abs_long.x) (by decide +kernel)) (hts (.initialized "java/lang/Math") (by decide +kernel)) (hts (.code Lib.MathLoose.abs_long.x Lib.MathLoose.abs_long.code 2 (some .long)) (by decide +kernel)) (Nat.le_of_ble_eq_true rfl) (Nat.le_of_ble_eq_true rfl) (Nat.zero_le _) (Nat.zero_le _) dX2_tallied_56 ?_
          refine lv_lsub hx hb dX2_tallied_59 ?_
          exact W.lret hx hb hr (fun t ht _ => ⟨congrArg (fun z => Outcome.returned (some (Value.long z))) (by unfold fX2_tallied; rw [if_neg c_1, if_neg c_2, if_neg c_3, if_neg c_4]), ht⟩) (fun _ h => nomatch h) dX2_tallied_60
def fX3_own (x0 : Int32) (x1 : Int64) : Int64 :=
  if x0 = 0 then
    x1.toInt32.toInt64
  else
    x1
theorem hd_X3_own : yX3_own.cls ≠ "java/lang/invoke/MethodHandle" ∧ yX3_own.cls ≠ "java/lang/invoke/VarHandle" ∧ (parseMethodDescriptor yX3_own.desc).map (fun d => d.parameters.length) = some 2 := by decide +kernel
set_option maxHeartbeats 4000000 in
set_option maxRecDepth 100000 in
theorem c_X3_own (l : Launch) (x0 : Int32) (x1 : Int64) : Met l yX3_own wsX3_own ({ frames := 0, cells := 0, slots := 0, locals := 0 }) (P0 [.int x0, .long x1]) (k2_QcV (.long (fX3_own x0 x1))) 0 0 (fun _ => False) := by
  refine Met.ofW (cc := cX3_own) (maxL := 3) (ret := (some .long)) (by decide) rfl ?_
  intro p e s m args below meth c s₁ B hml hv
  have hv2 : args = _ := hv
  subst hv2
  have hx := B.exec
  have hb := B.bytes
  have hr := B.returns
  have hts := atoms_spec (ws := wsX3_own) B.pre
  have hown : s.vm.findClass RX3 = some m.cls := findClass_of_methodNamed B.named
  have hlocks := B.notSynchronized
  have hl := lv_entry ([.int x0, .long x1]) (n := 3) (Nat.le_of_ble_eq_true rfl)
  rw [lg_entry_eq]
  generalize (lg_sl ([.int x0, .long x1]) ++ List.replicate (3 - (lg_sl ([.int x0, .long x1])).length) Slot.unset).toArray = ls at hl ⊢
  have hl : lv_has ls 3 [(0, .int x0), (1, .long x1)] := hl
  refine lv_iload_n hx hb dX3_own_0 rfl (lv_at hl 0 rfl) ?_
  refine lv_if_eq (tgt := 8) hx hb dX3_own_1 (by decide) (fun c_1 => ?_) (fun c_1 => ?_)
  · refine lv_lload_n hx hb dX3_own_8 rfl (lv_at hl 1 rfl) ?_
    refine lv_l2i hx hb dX3_own_9 rfl ?_
    refine lv_i2l hx hb dX3_own_10 rfl ?_
    exact W.lret hx hb hr (fun t ht _ => ⟨congrArg (fun z => Outcome.returned (some (Value.long z))) (by unfold fX3_own; rw [if_pos c_1]), ht⟩) (fun _ h => nomatch h) dX3_own_11
  · refine lv_lload_n hx hb dX3_own_4 rfl (lv_at hl 1 rfl) ?_
    refine lv_goto (tgt := 11) hx hb dX3_own_5 (by decide) ?_
    exact W.lret hx hb hr (fun t ht _ => ⟨congrArg (fun z => Outcome.returned (some (Value.long z))) (by unfold fX3_own; rw [if_neg c_1]), ht⟩) (fun _ h => nomatch h) dX3_own_11
def fX3_sizeOf (x0 : Int32) (x1 : Int64) : Int64 :=
  if x0 = 0 then
    x1 &&& (2147483647 : Int64)
  else
    x1 &&& (9223372036854775807 : Int64)
theorem hd_X3_sizeOf : yX3_sizeOf.cls ≠ "java/lang/invoke/MethodHandle" ∧ yX3_sizeOf.cls ≠ "java/lang/invoke/VarHandle" ∧ (parseMethodDescriptor yX3_sizeOf.desc).map (fun d => d.parameters.length) = some 2 := by decide +kernel
set_option maxHeartbeats 4000000 in
set_option maxRecDepth 100000 in
theorem c_X3_sizeOf (l : Launch) (x0 : Int32) (x1 : Int64) : Met l yX3_sizeOf wsX3_sizeOf ({ frames := 0, cells := 0, slots := 0, locals := 0 }) (P0 [.int x0, .long x1]) (k2_QcV (.long (fX3_sizeOf x0 x1))) 0 0 (fun _ => False) := by
  refine Met.ofW (cc := cX3_sizeOf) (maxL := 3) (ret := (some .long)) (by decide) rfl ?_
  intro p e s m args below meth c s₁ B hml hv
  have hv2 : args = _ := hv
  subst hv2
  have hx := B.exec
  have hb := B.bytes
  have hr := B.returns
  have hts := atoms_spec (ws := wsX3_sizeOf) B.pre
  have hown : s.vm.findClass RX3 = some m.cls := findClass_of_methodNamed B.named
  have hlocks := B.notSynchronized
  have hl := lv_entry ([.int x0, .long x1]) (n := 3) (Nat.le_of_ble_eq_true rfl)
  rw [lg_entry_eq]
  generalize (lg_sl ([.int x0, .long x1]) ++ List.replicate (3 - (lg_sl ([.int x0, .long x1])).length) Slot.unset).toArray = ls at hl ⊢
  have hl : lv_has ls 3 [(0, .int x0), (1, .long x1)] := hl
  refine lv_lload_n hx hb dX3_sizeOf_0 rfl (lv_at hl 1 rfl) ?_
  refine lv_iload_n hx hb dX3_sizeOf_1 rfl (lv_at hl 0 rfl) ?_
  refine lv_if_eq (tgt := 11) hx hb dX3_sizeOf_2 (by decide) (fun c_1 => ?_) (fun c_1 => ?_)
  · refine lv_ldc2 (v := (2147483647)) hx hb hown (hts (.constantLong RX3 23 (2147483647)) (by decide +kernel)) dX3_sizeOf_11 ?_
    refine lv_land hx hb dX3_sizeOf_14 ?_
    exact W.lret hx hb hr (fun t ht _ => ⟨congrArg (fun z => Outcome.returned (some (Value.long z))) (by unfold fX3_sizeOf; rw [if_pos c_1]), ht⟩) (fun _ h => nomatch h) dX3_sizeOf_15
  · refine lv_ldc2 (v := (9223372036854775807)) hx hb hown (hts (.constantLong RX3 21 (9223372036854775807)) (by decide +kernel)) dX3_sizeOf_5 ?_
    refine lv_goto (tgt := 14) hx hb dX3_sizeOf_8 (by decide) ?_
    refine lv_land hx hb dX3_sizeOf_14 ?_
    exact W.lret hx hb hr (fun t ht _ => ⟨congrArg (fun z => Outcome.returned (some (Value.long z))) (by unfold fX3_sizeOf; rw [if_neg c_1]), ht⟩) (fun _ h => nomatch h) dX3_sizeOf_15
def fX3_isNumber (x0 : Int32) (x1 : Int64) : Int32 :=
  if x0 = 0 then
    if (2139095040 : Int64) < (fX3_sizeOf x0 x1) then
      (0 : Int32)
    else
      (1 : Int32)
  else
    if (9218868437227405312 : Int64) < (fX3_sizeOf x0 x1) then
      (0 : Int32)
    else
      (1 : Int32)
theorem hd_X3_isNumber : yX3_isNumber.cls ≠ "java/lang/invoke/MethodHandle" ∧ yX3_isNumber.cls ≠ "java/lang/invoke/VarHandle" ∧ (parseMethodDescriptor yX3_isNumber.desc).map (fun d => d.parameters.length) = some 2 := by decide +kernel
set_option maxHeartbeats 4000000 in
set_option maxRecDepth 100000 in
theorem c_X3_isNumber (l : Launch) (x0 : Int32) (x1 : Int64) : Met l yX3_isNumber wsX3_isNumber ({ frames := 1, cells := 0, slots := 0, locals := 22 }) (P0 [.int x0, .long x1]) (k2_QcV (.int (fX3_isNumber x0 x1))) 0 0 (fun _ => False) := by
  refine Met.ofW (cc := cX3_isNumber) (maxL := 3) (ret := (some .boolean)) (by decide) rfl ?_
  intro p e s m args below meth c s₁ B hml hv
  have hv2 : args = _ := hv
  subst hv2
  have hx := B.exec
  have hb := B.bytes
  have hr := B.returns
  have hts := atoms_spec (ws := wsX3_isNumber) B.pre
  have hown : s.vm.findClass RX3 = some m.cls := findClass_of_methodNamed B.named
  have hlocks := B.notSynchronized
  have hl := lv_entry ([.int x0, .long x1]) (n := 3) (Nat.le_of_ble_eq_true rfl)
  rw [lg_entry_eq]
  generalize (lg_sl ([.int x0, .long x1]) ++ List.replicate (3 - (lg_sl ([.int x0, .long x1])).length) Slot.unset).toArray = ls at hl ⊢
  have hl : lv_has ls 3 [(0, .int x0), (1, .long x1)] := hl
  refine lv_iload_n hx hb dX3_isNumber_0 rfl (lv_at hl 0 rfl) ?_
  refine lv_lload_n hx hb dX3_isNumber_1 rfl (lv_at hl 1 rfl) ?_
  refine pc_0 (As := [.int x0, .long x1]) (rest := []) (r := .long (fX3_sizeOf x0 x1)) ⟨hx, hb, hml, hown, hts⟩ (c_X3_sizeOf l x0 x1) (va_cwS 2 hts gX3_isNumber_X3_sizeOf rfl rfl rfl hd_X3_sizeOf ⟨Nat.le_of_ble_eq_true rfl, Nat.le_of_ble_eq_true rfl⟩) rfl hl.1 rfl (lv_room (Nat.le_of_ble_eq_true rfl)) dX3_isNumber_2 ⟨Nat.zero_le _, Nat.zero_le _⟩ ?_
  refine lv_iload_n hx hb dX3_isNumber_5 rfl (lv_at hl 0 rfl) ?_
  refine lv_if_eq (tgt := 15) hx hb dX3_isNumber_6 (by decide) (fun c_1 => ?_) (fun c_1 => ?_)
  · refine lv_ldc2 (v := (2139095040)) hx hb hown (hts (.constantLong RX3 31 (2139095040)) (by decide +kernel)) dX3_isNumber_15 ?_
    refine pl_gt (tgt := 26) hx hb dX3_isNumber_18 dX3_isNumber_19 (by decide) (fun c_2 => ?_) (fun c_2 => ?_)
    · refine lv_iconst (v := 0) hx hb dX3_isNumber_26 (by decide) ?_
      exact W.zret hx hb hr (by decide) (fun t ht _ => ⟨congrArg (fun z => Outcome.returned (some (Value.int z))) (by unfold fX3_isNumber; rw [if_pos c_1, if_pos c_2]), ht⟩) (fun _ h => nomatch h) dX3_isNumber_27
    · refine lv_iconst (v := 1) hx hb dX3_isNumber_22 (by decide) ?_
      refine lv_goto (tgt := 27) hx hb dX3_isNumber_23 (by decide) ?_
      exact W.zret hx hb hr (by decide) (fun t ht _ => ⟨congrArg (fun z => Outcome.returned (some (Value.int z))) (by unfold fX3_isNumber; rw [if_pos c_1, if_neg c_2]), ht⟩) (fun _ h => nomatch h) dX3_isNumber_27
  · refine lv_ldc2 (v := (9218868437227405312)) hx hb hown (hts (.constantLong RX3 29 (9218868437227405312)) (by decide +kernel)) dX3_isNumber_9 ?_
    refine lv_goto (tgt := 18) hx hb dX3_isNumber_12 (by decide) ?_
    refine pl_gt (tgt := 26) hx hb dX3_isNumber_18 dX3_isNumber_19 (by decide) (fun c_3 => ?_) (fun c_3 => ?_)
    · refine lv_iconst (v := 0) hx hb dX3_isNumber_26 (by decide) ?_
      exact W.zret hx hb hr (by decide) (fun t ht _ => ⟨congrArg (fun z => Outcome.returned (some (Value.int z))) (by unfold fX3_isNumber; rw [if_neg c_1, if_pos c_3]), ht⟩) (fun _ h => nomatch h) dX3_isNumber_27
    · refine lv_iconst (v := 1) hx hb dX3_isNumber_22 (by decide) ?_
      refine lv_goto (tgt := 27) hx hb dX3_isNumber_23 (by decide) ?_
      exact W.zret hx hb hr (by decide) (fun t ht _ => ⟨congrArg (fun z => Outcome.returned (some (Value.int z))) (by unfold fX3_isNumber; rw [if_neg c_1, if_neg c_3]), ht⟩) (fun _ h => nomatch h) dX3_isNumber_27
def fX3_isEndless (x0 : Int32) (x1 : Int64) : Int32 :=
  if x0 = 0 then
    if (fX3_sizeOf x0 x1) = (2139095040 : Int64) then
      (1 : Int32)
    else
      (0 : Int32)
  else
    if (fX3_sizeOf x0 x1) = (9218868437227405312 : Int64) then
      (1 : Int32)
    else
      (0 : Int32)
theorem hd_X3_isEndless : yX3_isEndless.cls ≠ "java/lang/invoke/MethodHandle" ∧ yX3_isEndless.cls ≠ "java/lang/invoke/VarHandle" ∧ (parseMethodDescriptor yX3_isEndless.desc).map (fun d => d.parameters.length) = some 2 := by decide +kernel
set_option maxHeartbeats 4000000 in
set_option maxRecDepth 100000 in
theorem c_X3_isEndless (l : Launch) (x0 : Int32) (x1 : Int64) : Met l yX3_isEndless wsX3_isEndless ({ frames := 1, cells := 0, slots := 0, locals := 22 }) (P0 [.int x0, .long x1]) (k2_QcV (.int (fX3_isEndless x0 x1))) 0 0 (fun _ => False) := by
  refine Met.ofW (cc := cX3_isEndless) (maxL := 3) (ret := (some .boolean)) (by decide) rfl ?_
  intro p e s m args below meth c s₁ B hml hv
  have hv2 : args = _ := hv
  subst hv2
  have hx := B.exec
  have hb := B.bytes
  have hr := B.returns
  have hts := atoms_spec (ws := wsX3_isEndless) B.pre
  have hown : s.vm.findClass RX3 = some m.cls := findClass_of_methodNamed B.named
  have hlocks := B.notSynchronized
  have hl := lv_entry ([.int x0, .long x1]) (n := 3) (Nat.le_of_ble_eq_true rfl)
  rw [lg_entry_eq]
  generalize (lg_sl ([.int x0, .long x1]) ++ List.replicate (3 - (lg_sl ([.int x0, .long x1])).length) Slot.unset).toArray = ls at hl ⊢
  have hl : lv_has ls 3 [(0, .int x0), (1, .long x1)] := hl
  refine lv_iload_n hx hb dX3_isEndless_0 rfl (lv_at hl 0 rfl) ?_
  refine lv_lload_n hx hb dX3_isEndless_1 rfl (lv_at hl 1 rfl) ?_
  refine pc_0 (As := [.int x0, .long x1]) (rest := []) (r := .long (fX3_sizeOf x0 x1)) ⟨hx, hb, hml, hown, hts⟩ (c_X3_sizeOf l x0 x1) (va_cwS 2 hts gX3_isEndless_X3_sizeOf rfl rfl rfl hd_X3_sizeOf ⟨Nat.le_of_ble_eq_true rfl, Nat.le_of_ble_eq_true rfl⟩) rfl hl.1 rfl (lv_room (Nat.le_of_ble_eq_true rfl)) dX3_isEndless_2 ⟨Nat.zero_le _, Nat.zero_le _⟩ ?_
  refine lv_iload_n hx hb dX3_isEndless_5 rfl (lv_at hl 0 rfl) ?_
  refine lv_if_eq (tgt := 15) hx hb dX3_isEndless_6 (by decide) (fun c_1 => ?_) (fun c_1 => ?_)
  · refine lv_ldc2 (v := (2139095040)) hx hb hown (hts (.constantLong RX3 31 (2139095040)) (by decide +kernel)) dX3_isEndless_15 ?_
    refine pl_ne (tgt := 26) hx hb dX3_isEndless_18 dX3_isEndless_19 (by decide) (fun c_2 => ?_) (fun c_2 => ?_)
    · refine lv_iconst (v := 0) hx hb dX3_isEndless_26 (by decide) ?_
      exact W.zret hx hb hr (by decide) (fun t ht _ => ⟨congrArg (fun z => Outcome.returned (some (Value.int z))) (by unfold fX3_isEndless; rw [if_pos c_1, if_neg c_2]), ht⟩) (fun _ h => nomatch h) dX3_isEndless_27
    · refine lv_iconst (v := 1) hx hb dX3_isEndless_22 (by decide) ?_
      refine lv_goto (tgt := 27) hx hb dX3_isEndless_23 (by decide) ?_
      exact W.zret hx hb hr (by decide) (fun t ht _ => ⟨congrArg (fun z => Outcome.returned (some (Value.int z))) (by unfold fX3_isEndless; rw [if_pos c_1, if_pos c_2]), ht⟩) (fun _ h => nomatch h) dX3_isEndless_27
  · refine lv_ldc2 (v := (9218868437227405312)) hx hb hown (hts (.constantLong RX3 29 (9218868437227405312)) (by decide +kernel)) dX3_isEndless_9 ?_
    refine lv_goto (tgt := 18) hx hb dX3_isEndless_12 (by decide) ?_
    refine pl_ne (tgt := 26) hx hb dX3_isEndless_18 dX3_isEndless_19 (by decide) (fun c_3 => ?_) (fun c_3 => ?_)
    · refine lv_iconst (v := 0) hx hb dX3_isEndless_26 (by decide) ?_
      exact W.zret hx hb hr (by decide) (fun t ht _ => ⟨congrArg (fun z => Outcome.returned (some (Value.int z))) (by unfold fX3_isEndless; rw [if_neg c_1, if_neg c_3]), ht⟩) (fun _ h => nomatch h) dX3_isEndless_27
    · refine lv_iconst (v := 1) hx hb dX3_isEndless_22 (by decide) ?_
      refine lv_goto (tgt := 27) hx hb dX3_isEndless_23 (by decide) ?_
      exact W.zret hx hb hr (by decide) (fun t ht _ => ⟨congrArg (fun z => Outcome.returned (some (Value.int z))) (by unfold fX3_isEndless; rw [if_neg c_1, if_pos c_3]), ht⟩) (fun _ h => nomatch h) dX3_isEndless_27
def fX3_isNought (x0 : Int32) (x1 : Int64) : Int32 :=
  if (fX3_sizeOf x0 x1) = (0 : Int64) then
    (1 : Int32)
  else
    (0 : Int32)
theorem hd_X3_isNought : yX3_isNought.cls ≠ "java/lang/invoke/MethodHandle" ∧ yX3_isNought.cls ≠ "java/lang/invoke/VarHandle" ∧ (parseMethodDescriptor yX3_isNought.desc).map (fun d => d.parameters.length) = some 2 := by decide +kernel
set_option maxHeartbeats 4000000 in
set_option maxRecDepth 100000 in
theorem c_X3_isNought (l : Launch) (x0 : Int32) (x1 : Int64) : Met l yX3_isNought wsX3_isNought ({ frames := 1, cells := 0, slots := 0, locals := 22 }) (P0 [.int x0, .long x1]) (k2_QcV (.int (fX3_isNought x0 x1))) 0 0 (fun _ => False) := by
  refine Met.ofW (cc := cX3_isNought) (maxL := 3) (ret := (some .boolean)) (by decide) rfl ?_
  intro p e s m args below meth c s₁ B hml hv
  have hv2 : args = _ := hv
  subst hv2
  have hx := B.exec
  have hb := B.bytes
  have hr := B.returns
  have hts := atoms_spec (ws := wsX3_isNought) B.pre
  have hown : s.vm.findClass RX3 = some m.cls := findClass_of_methodNamed B.named
  have hlocks := B.notSynchronized
  have hl := lv_entry ([.int x0, .long x1]) (n := 3) (Nat.le_of_ble_eq_true rfl)
  rw [lg_entry_eq]
  generalize (lg_sl ([.int x0, .long x1]) ++ List.replicate (3 - (lg_sl ([.int x0, .long x1])).length) Slot.unset).toArray = ls at hl ⊢
  have hl : lv_has ls 3 [(0, .int x0), (1, .long x1)] := hl
  refine lv_iload_n hx hb dX3_isNought_0 rfl (lv_at hl 0 rfl) ?_
  refine lv_lload_n hx hb dX3_isNought_1 rfl (lv_at hl 1 rfl) ?_
  refine pc_0 (As := [.int x0, .long x1]) (rest := []) (r := .long (fX3_sizeOf x0 x1)) ⟨hx, hb, hml, hown, hts⟩ (c_X3_sizeOf l x0 x1) (va_cwS 2 hts gX3_isNought_X3_sizeOf rfl rfl rfl hd_X3_sizeOf ⟨Nat.le_of_ble_eq_true rfl, Nat.le_of_ble_eq_true rfl⟩) rfl hl.1 rfl (lv_room (Nat.le_of_ble_eq_true rfl)) dX3_isNought_2 ⟨Nat.zero_le _, Nat.zero_le _⟩ ?_
  refine lv_lconst (v := 0) hx hb dX3_isNought_5 (by decide) ?_
  refine pl_ne (tgt := 14) hx hb dX3_isNought_6 dX3_isNought_7 (by decide) (fun c_1 => ?_) (fun c_1 => ?_)
  · refine lv_iconst (v := 0) hx hb dX3_isNought_14 (by decide) ?_
    exact W.zret hx hb hr (by decide) (fun t ht _ => ⟨congrArg (fun z => Outcome.returned (some (Value.int z))) (by unfold fX3_isNought; rw [if_neg c_1]), ht⟩) (fun _ h => nomatch h) dX3_isNought_15
  · refine lv_iconst (v := 1) hx hb dX3_isNought_10 (by decide) ?_
    refine lv_goto (tgt := 15) hx hb dX3_isNought_11 (by decide) ?_
    exact W.zret hx hb hr (by decide) (fun t ht _ => ⟨congrArg (fun z => Outcome.returned (some (Value.int z))) (by unfold fX3_isNought; rw [if_pos c_1]), ht⟩) (fun _ h => nomatch h) dX3_isNought_15
def fX3_rank (x0 : Int32) (x1 : Int64) : Int64 :=
  if (0 : Int64) ≤ x1 then
    x1
  else
    (-1 : Int64) - (fX3_sizeOf x0 x1)
theorem hd_X3_rank : yX3_rank.cls ≠ "java/lang/invoke/MethodHandle" ∧ yX3_rank.cls ≠ "java/lang/invoke/VarHandle" ∧ (parseMethodDescriptor yX3_rank.desc).map (fun d => d.parameters.length) = some 2 := by decide +kernel
set_option maxHeartbeats 4000000 in
set_option maxRecDepth 100000 in
theorem c_X3_rank (l : Launch) (x0 : Int32) (x1 : Int64) : Met l yX3_rank wsX3_rank ({ frames := 1, cells := 0, slots := 0, locals := 22 }) (P0 [.int x0, .long x1]) (k2_QcV (.long (fX3_rank x0 x1))) 0 0 (fun _ => False) := by
  refine Met.ofW (cc := cX3_rank) (maxL := 3) (ret := (some .long)) (by decide) rfl ?_
  intro p e s m args below meth c s₁ B hml hv
  have hv2 : args = _ := hv
  subst hv2
  have hx := B.exec
  have hb := B.bytes
  have hr := B.returns
  have hts := atoms_spec (ws := wsX3_rank) B.pre
  have hown : s.vm.findClass RX3 = some m.cls := findClass_of_methodNamed B.named
  have hlocks := B.notSynchronized
  have hl := lv_entry ([.int x0, .long x1]) (n := 3) (Nat.le_of_ble_eq_true rfl)
  rw [lg_entry_eq]
  generalize (lg_sl ([.int x0, .long x1]) ++ List.replicate (3 - (lg_sl ([.int x0, .long x1])).length) Slot.unset).toArray = ls at hl ⊢
  have hl : lv_has ls 3 [(0, .int x0), (1, .long x1)] := hl
  refine lv_lload_n hx hb dX3_rank_0 rfl (lv_at hl 1 rfl) ?_
  refine lv_lconst (v := 0) hx hb dX3_rank_1 (by decide) ?_
  refine pl_ge (tgt := 18) hx hb dX3_rank_2 dX3_rank_3 (by decide) (fun c_1 => ?_) (fun c_1 => ?_)
  · refine lv_lload_n hx hb dX3_rank_18 rfl (lv_at hl 1 rfl) ?_
    exact W.lret hx hb hr (fun t ht _ => ⟨congrArg (fun z => Outcome.returned (some (Value.long z))) (by unfold fX3_rank; rw [if_pos c_1]), ht⟩) (fun _ h => nomatch h) dX3_rank_19
  · refine lv_ldc2 (v := (-1)) hx hb hown (hts (.constantLong RX3 33 (-1)) (by decide +kernel)) dX3_rank_6 ?_
    refine lv_iload_n hx hb dX3_rank_9 rfl (lv_at hl 0 rfl) ?_
    refine lv_lload_n hx hb dX3_rank_10 rfl (lv_at hl 1 rfl) ?_
    refine pc_0 (As := [.int x0, .long x1]) (rest := [.long (-1 : Int64)]) (r := .long (fX3_sizeOf x0 x1)) ⟨hx, hb, hml, hown, hts⟩ (c_X3_sizeOf l x0 x1) (va_cwS 2 hts gX3_rank_X3_sizeOf rfl rfl rfl hd_X3_sizeOf ⟨Nat.le_of_ble_eq_true rfl, Nat.le_of_ble_eq_true rfl⟩) rfl hl.1 rfl (lv_room (Nat.le_of_ble_eq_true rfl)) dX3_rank_11 ⟨Nat.zero_le _, Nat.zero_le _⟩ ?_
    refine lv_lsub hx hb dX3_rank_14 ?_
    refine lv_goto (tgt := 19) hx hb dX3_rank_15 (by decide) ?_
    exact W.lret hx hb hr (fun t ht _ => ⟨congrArg (fun z => Outcome.returned (some (Value.long z))) (by unfold fX3_rank; rw [if_neg c_1]), ht⟩) (fun _ h => nomatch h) dX3_rank_19
def fX3_sided (x0 : Int32) (x1 : Int64) (x3 : Int32) : Int64 :=
  if x3 = 0 then
    x1
  else
    if x0 = 0 then
      x1 - (2147483648 : Int64)
    else
      x1 ||| (-9223372036854775808 : Int64)
theorem hd_X3_sided : yX3_sided.cls ≠ "java/lang/invoke/MethodHandle" ∧ yX3_sided.cls ≠ "java/lang/invoke/VarHandle" ∧ (parseMethodDescriptor yX3_sided.desc).map (fun d => d.parameters.length) = some 3 := by decide +kernel
set_option maxHeartbeats 4000000 in
set_option maxRecDepth 100000 in
theorem c_X3_sided (l : Launch) (x0 : Int32) (x1 : Int64) (x3 : Int32) : Met l yX3_sided wsX3_sided ({ frames := 0, cells := 0, slots := 0, locals := 0 }) (P0 [.int x0, .long x1, .int x3]) (k2_QcV (.long (fX3_sided x0 x1 x3))) 0 0 (fun _ => False) := by
  refine Met.ofW (cc := cX3_sided) (maxL := 4) (ret := (some .long)) (by decide) rfl ?_
  intro p e s m args below meth c s₁ B hml hv
  have hv2 : args = _ := hv
  subst hv2
  have hx := B.exec
  have hb := B.bytes
  have hr := B.returns
  have hts := atoms_spec (ws := wsX3_sided) B.pre
  have hown : s.vm.findClass RX3 = some m.cls := findClass_of_methodNamed B.named
  have hlocks := B.notSynchronized
  have hl := lv_entry ([.int x0, .long x1, .int x3]) (n := 4) (Nat.le_of_ble_eq_true rfl)
  rw [lg_entry_eq]
  generalize (lg_sl ([.int x0, .long x1, .int x3]) ++ List.replicate (4 - (lg_sl ([.int x0, .long x1, .int x3])).length) Slot.unset).toArray = ls at hl ⊢
  have hl : lv_has ls 4 [(0, .int x0), (1, .long x1), (3, .int x3)] := hl
  refine lv_iload_n hx hb dX3_sided_0 rfl (lv_at hl 2 rfl) ?_
  refine lv_if_ne (tgt := 6) hx hb dX3_sided_1 (by decide) (fun c_1 => ?_) (fun c_1 => ?_)
  · refine lv_iload_n hx hb dX3_sided_6 rfl (lv_at hl 0 rfl) ?_
    refine lv_if_eq (tgt := 18) hx hb dX3_sided_7 (by decide) (fun c_2 => ?_) (fun c_2 => ?_)
    · refine lv_lload_n hx hb dX3_sided_18 rfl (lv_at hl 1 rfl) ?_
      refine lv_ldc2 (v := (2147483648)) hx hb hown (hts (.constantLong RX3 37 (2147483648)) (by decide +kernel)) dX3_sided_19 ?_
      refine lv_lsub hx hb dX3_sided_22 ?_
      exact W.lret hx hb hr (fun t ht _ => ⟨congrArg (fun z => Outcome.returned (some (Value.long z))) (by unfold fX3_sided; rw [if_neg c_1, if_pos c_2]), ht⟩) (fun _ h => nomatch h) dX3_sided_23
    · refine lv_lload_n hx hb dX3_sided_10 rfl (lv_at hl 1 rfl) ?_
      refine lv_ldc2 (v := (-9223372036854775808)) hx hb hown (hts (.constantLong RX3 35 (-9223372036854775808)) (by decide +kernel)) dX3_sided_11 ?_
      refine lv_lor hx hb dX3_sided_14 ?_
      refine lv_goto (tgt := 23) hx hb dX3_sided_15 (by decide) ?_
      exact W.lret hx hb hr (fun t ht _ => ⟨congrArg (fun z => Outcome.returned (some (Value.long z))) (by unfold fX3_sided; rw [if_neg c_1, if_neg c_2]), ht⟩) (fun _ h => nomatch h) dX3_sided_23
  · refine lv_lload_n hx hb dX3_sided_4 rfl (lv_at hl 1 rfl) ?_
    exact W.lret hx hb hr (fun t ht _ => ⟨congrArg (fun z => Outcome.returned (some (Value.long z))) (by unfold fX3_sided; rw [if_pos c_1]), ht⟩) (fun _ h => nomatch h) dX3_sided_5
def fX3_turned (x0 : Int32) (x1 : Int64) : Int64 :=
  if x1 < (0 : Int64) then
    fX3_sided x0 (fX3_sizeOf x0 x1) (0 : Int32)
  else
    fX3_sided x0 (fX3_sizeOf x0 x1) (1 : Int32)
theorem hd_X3_turned : yX3_turned.cls ≠ "java/lang/invoke/MethodHandle" ∧ yX3_turned.cls ≠ "java/lang/invoke/VarHandle" ∧ (parseMethodDescriptor yX3_turned.desc).map (fun d => d.parameters.length) = some 2 := by decide +kernel
set_option maxHeartbeats 4000000 in
set_option maxRecDepth 100000 in
theorem c_X3_turned (l : Launch) (x0 : Int32) (x1 : Int64) : Met l yX3_turned wsX3_turned ({ frames := 1, cells := 0, slots := 0, locals := 23 }) (P0 [.int x0, .long x1]) (k2_QcV (.long (fX3_turned x0 x1))) 0 0 (fun _ => False) := by
  refine Met.ofW (cc := cX3_turned) (maxL := 3) (ret := (some .long)) (by decide) rfl ?_
  intro p e s m args below meth c s₁ B hml hv
  have hv2 : args = _ := hv
  subst hv2
  have hx := B.exec
  have hb := B.bytes
  have hr := B.returns
  have hts := atoms_spec (ws := wsX3_turned) B.pre
  have hown : s.vm.findClass RX3 = some m.cls := findClass_of_methodNamed B.named
  have hlocks := B.notSynchronized
  have hl := lv_entry ([.int x0, .long x1]) (n := 3) (Nat.le_of_ble_eq_true rfl)
  rw [lg_entry_eq]
  generalize (lg_sl ([.int x0, .long x1]) ++ List.replicate (3 - (lg_sl ([.int x0, .long x1])).length) Slot.unset).toArray = ls at hl ⊢
  have hl : lv_has ls 3 [(0, .int x0), (1, .long x1)] := hl
  refine lv_iload_n hx hb dX3_turned_0 rfl (lv_at hl 0 rfl) ?_
  refine lv_iload_n hx hb dX3_turned_1 rfl (lv_at hl 0 rfl) ?_
  refine lv_lload_n hx hb dX3_turned_2 rfl (lv_at hl 1 rfl) ?_
  refine pc_0 (As := [.int x0, .long x1]) (rest := [.int x0]) (r := .long (fX3_sizeOf x0 x1)) ⟨hx, hb, hml, hown, hts⟩ (c_X3_sizeOf l x0 x1) (va_cwS 2 hts gX3_turned_X3_sizeOf rfl rfl rfl hd_X3_sizeOf ⟨Nat.le_of_ble_eq_true rfl, Nat.le_of_ble_eq_true rfl⟩) rfl hl.1 rfl (lv_room (Nat.le_of_ble_eq_true rfl)) dX3_turned_3 ⟨Nat.zero_le _, Nat.zero_le _⟩ ?_
  refine lv_lload_n hx hb dX3_turned_6 rfl (lv_at hl 1 rfl) ?_
  refine lv_lconst (v := 0) hx hb dX3_turned_7 (by decide) ?_
  refine pl_lt (tgt := 16) hx hb dX3_turned_8 dX3_turned_9 (by decide) (fun c_1 => ?_) (fun c_1 => ?_)
  · refine lv_iconst (v := 0) hx hb dX3_turned_16 (by decide) ?_
    refine pc_0 (As := [.int x0, .long (fX3_sizeOf x0 x1), .int (0 : Int32)]) (rest := []) (r := .long (fX3_sided x0 (fX3_sizeOf x0 x1) (0 : Int32))) ⟨hx, hb, hml, hown, hts⟩ (c_X3_sided l x0 (fX3_sizeOf x0 x1) (0 : Int32)) (va_cwS 3 hts gX3_turned_X3_sided rfl rfl rfl hd_X3_sided ⟨Nat.le_of_ble_eq_true rfl, Nat.le_of_ble_eq_true rfl⟩) rfl hl.1 rfl (lv_room (Nat.le_of_ble_eq_true rfl)) dX3_turned_17 ⟨Nat.zero_le _, Nat.zero_le _⟩ ?_
    exact W.lret hx hb hr (fun t ht _ => ⟨congrArg (fun z => Outcome.returned (some (Value.long z))) (by unfold fX3_turned; rw [if_pos c_1]), ht⟩) (fun _ h => nomatch h) dX3_turned_20
  · refine lv_iconst (v := 1) hx hb dX3_turned_12 (by decide) ?_
    refine lv_goto (tgt := 17) hx hb dX3_turned_13 (by decide) ?_
    refine pc_0 (As := [.int x0, .long (fX3_sizeOf x0 x1), .int (1 : Int32)]) (rest := []) (r := .long (fX3_sided x0 (fX3_sizeOf x0 x1) (1 : Int32))) ⟨hx, hb, hml, hown, hts⟩ (c_X3_sided l x0 (fX3_sizeOf x0 x1) (1 : Int32)) (va_cwS 3 hts gX3_turned_X3_sided rfl rfl rfl hd_X3_sided ⟨Nat.le_of_ble_eq_true rfl, Nat.le_of_ble_eq_true rfl⟩) rfl hl.1 rfl (lv_room (Nat.le_of_ble_eq_true rfl)) dX3_turned_17 ⟨Nat.zero_le _, Nat.zero_le _⟩ ?_
    exact W.lret hx hb hr (fun t ht _ => ⟨congrArg (fun z => Outcome.returned (some (Value.long z))) (by unfold fX3_turned; rw [if_neg c_1]), ht⟩) (fun _ h => nomatch h) dX3_turned_20
def fX3_alike (x0 : Int32) (x1 : Int64) (x3 : Int64) : Int32 :=
  if x1 = x3 then
    (1 : Int32)
  else
    if (fX3_isNought x0 x1) = 0 then
      (0 : Int32)
    else
      if (fX3_isNought x0 x3) = 0 then
        (0 : Int32)
      else
        (1 : Int32)
theorem hd_X3_alike : yX3_alike.cls ≠ "java/lang/invoke/MethodHandle" ∧ yX3_alike.cls ≠ "java/lang/invoke/VarHandle" ∧ (parseMethodDescriptor yX3_alike.desc).map (fun d => d.parameters.length) = some 3 := by decide +kernel
set_option maxHeartbeats 4000000 in
set_option maxRecDepth 100000 in
theorem c_X3_alike (l : Launch) (x0 : Int32) (x1 : Int64) (x3 : Int64) : Met l yX3_alike wsX3_alike ({ frames := 2, cells := 0, slots := 0, locals := 44 }) (P0 [.int x0, .long x1, .long x3]) (k2_QcV (.int (fX3_alike x0 x1 x3))) 0 0 (fun _ => False) := by
  refine Met.ofW (cc := cX3_alike) (maxL := 5) (ret := (some .boolean)) (by decide) rfl ?_
  intro p e s m args below meth c s₁ B hml hv
  have hv2 : args = _ := hv
  subst hv2
  have hx := B.exec
  have hb := B.bytes
  have hr := B.returns
  have hts := atoms_spec (ws := wsX3_alike) B.pre
  have hown : s.vm.findClass RX3 = some m.cls := findClass_of_methodNamed B.named
  have hlocks := B.notSynchronized
  have hl := lv_entry ([.int x0, .long x1, .long x3]) (n := 5) (Nat.le_of_ble_eq_true rfl)
  rw [lg_entry_eq]
  generalize (lg_sl ([.int x0, .long x1, .long x3]) ++ List.replicate (5 - (lg_sl ([.int x0, .long x1, .long x3])).length) Slot.unset).toArray = ls at hl ⊢
  have hl : lv_has ls 5 [(0, .int x0), (1, .long x1), (3, .long x3)] := hl
  refine lv_lload_n hx hb dX3_alike_0 rfl (lv_at hl 1 rfl) ?_
  refine lv_lload_n hx hb dX3_alike_1 rfl (lv_at hl 2 rfl) ?_
  refine pl_eq (tgt := 22) hx hb dX3_alike_2 dX3_alike_3 (by decide) (fun c_1 => ?_) (fun c_1 => ?_)
  · refine lv_iconst (v := 1) hx hb dX3_alike_22 (by decide) ?_
    refine lv_goto (tgt := 27) hx hb dX3_alike_23 (by decide) ?_
    exact W.zret hx hb hr (by decide) (fun t ht _ => ⟨congrArg (fun z => Outcome.returned (some (Value.int z))) (by unfold fX3_alike; rw [if_pos c_1]), ht⟩) (fun _ h => nomatch h) dX3_alike_27
  · refine lv_iload_n hx hb dX3_alike_6 rfl (lv_at hl 0 rfl) ?_
    refine lv_lload_n hx hb dX3_alike_7 rfl (lv_at hl 1 rfl) ?_
    refine pc_0 (As := [.int x0, .long x1]) (rest := []) (r := .int (fX3_isNought x0 x1)) ⟨hx, hb, hml, hown, hts⟩ (c_X3_isNought l x0 x1) (va_cwS 2 hts gX3_alike_X3_isNought rfl rfl rfl hd_X3_isNought ⟨Nat.le_of_ble_eq_true rfl, Nat.le_of_ble_eq_true rfl⟩) rfl hl.1 rfl (lv_room (Nat.le_of_ble_eq_true rfl)) dX3_alike_8 ⟨Nat.zero_le _, Nat.zero_le _⟩ ?_
    refine lv_if_eq (tgt := 26) hx hb dX3_alike_11 (by decide) (fun c_2 => ?_) (fun c_2 => ?_)
    · refine lv_iconst (v := 0) hx hb dX3_alike_26 (by decide) ?_
      exact W.zret hx hb hr (by decide) (fun t ht _ => ⟨congrArg (fun z => Outcome.returned (some (Value.int z))) (by unfold fX3_alike; rw [if_neg c_1, if_pos c_2]), ht⟩) (fun _ h => nomatch h) dX3_alike_27
    · refine lv_iload_n hx hb dX3_alike_14 rfl (lv_at hl 0 rfl) ?_
      refine lv_lload_n hx hb dX3_alike_15 rfl (lv_at hl 2 rfl) ?_
      refine pc_0 (As := [.int x0, .long x3]) (rest := []) (r := .int (fX3_isNought x0 x3)) ⟨hx, hb, hml, hown, hts⟩ (c_X3_isNought l x0 x3) (va_cwS 2 hts gX3_alike_X3_isNought rfl rfl rfl hd_X3_isNought ⟨Nat.le_of_ble_eq_true rfl, Nat.le_of_ble_eq_true rfl⟩) rfl hl.1 rfl (lv_room (Nat.le_of_ble_eq_true rfl)) dX3_alike_16 ⟨Nat.zero_le _, Nat.zero_le _⟩ ?_
      refine lv_if_eq (tgt := 26) hx hb dX3_alike_19 (by decide) (fun c_3 => ?_) (fun c_3 => ?_)
      · refine lv_iconst (v := 0) hx hb dX3_alike_26 (by decide) ?_
        exact W.zret hx hb hr (by decide) (fun t ht _ => ⟨congrArg (fun z => Outcome.returned (some (Value.int z))) (by unfold fX3_alike; rw [if_neg c_1, if_neg c_2, if_pos c_3]), ht⟩) (fun _ h => nomatch h) dX3_alike_27
      · refine lv_iconst (v := 1) hx hb dX3_alike_22 (by decide) ?_
        refine lv_goto (tgt := 27) hx hb dX3_alike_23 (by decide) ?_
        exact W.zret hx hb hr (by decide) (fun t ht _ => ⟨congrArg (fun z => Outcome.returned (some (Value.int z))) (by unfold fX3_alike; rw [if_neg c_1, if_neg c_2, if_neg c_3]), ht⟩) (fun _ h => nomatch h) dX3_alike_27
def fX3_grown (x0 : Int32) (x1 : Int64) (x3 : Int64) : Int64 :=
  if (0 : Int64) ≤ x3 then
    if x0 = 0 then
      x3
    else
      if x0 = 1 then
        if x1 ≤ x3 then
          x3
        else
          x1
      else
        if x0 = 2 then
          if x3 ≤ x1 then
            x3
          else
            x1
        else
          if x0 = 3 then
            x3
          else
            if (0 : Int64) ≤ x1 then
              x1 - x3
            else
              (-x1) - x3
  else
    if x0 = 0 then
      x3
    else
      if x0 = 1 then
        if x1 ≤ x3 then
          x3
        else
          x1
      else
        if x0 = 2 then
          if x3 ≤ x1 then
            x3
          else
            x1
        else
          if x0 = 3 then
            -x3
          else
            if (0 : Int64) ≤ x1 then
              x1 - (-x3)
            else
              (-x1) - (-x3)
theorem hd_X3_grown : yX3_grown.cls ≠ "java/lang/invoke/MethodHandle" ∧ yX3_grown.cls ≠ "java/lang/invoke/VarHandle" ∧ (parseMethodDescriptor yX3_grown.desc).map (fun d => d.parameters.length) = some 3 := by decide +kernel
set_option maxHeartbeats 4000000 in
set_option maxRecDepth 100000 in
theorem c_X3_grown (l : Launch) (x0 : Int32) (x1 : Int64) (x3 : Int64) : Met l yX3_grown wsX3_grown ({ frames := 0, cells := 0, slots := 0, locals := 0 }) (P0 [.int x0, .long x1, .long x3]) (k2_QcV (.long (fX3_grown x0 x1 x3))) 0 0 (fun _ => False) := by
  refine Met.ofW (cc := cX3_grown) (maxL := 7) (ret := (some .long)) (by decide) rfl ?_
  intro p e s m args below meth c s₁ B hml hv
  have hv2 : args = _ := hv
  subst hv2
  have hx := B.exec
  have hb := B.bytes
  have hr := B.returns
  have hts := atoms_spec (ws := wsX3_grown) B.pre
  have hown : s.vm.findClass RX3 = some m.cls := findClass_of_methodNamed B.named
  have hlocks := B.notSynchronized
  have hl := lv_entry ([.int x0, .long x1, .long x3]) (n := 7) (Nat.le_of_ble_eq_true rfl)
  rw [lg_entry_eq]
  generalize (lg_sl ([.int x0, .long x1, .long x3]) ++ List.replicate (7 - (lg_sl ([.int x0, .long x1, .long x3])).length) Slot.unset).toArray = ls at hl ⊢
  have hl : lv_has ls 7 [(0, .int x0), (1, .long x1), (3, .long x3)] := hl
  refine lv_lload_n hx hb dX3_grown_0 rfl (lv_at hl 2 rfl) ?_
  refine lv_lconst (v := 0) hx hb dX3_grown_1 (by decide) ?_
  refine pl_ge (tgt := 11) hx hb dX3_grown_2 dX3_grown_3 (by decide) (fun c_1 => ?_) (fun c_1 => ?_)
  · refine lv_lload_n hx hb dX3_grown_11 rfl (lv_at hl 2 rfl) ?_
    refine lv_lstore (lv' := [(5, .long x3), (0, .int x0), (1, .long x1), (3, .long x3)]) hx hb dX3_grown_12 hl (by decide) rfl (fun ls hl => ?_)
    refine lv_iload_n hx hb dX3_grown_14 rfl (lv_at hl 1 rfl) ?_
    by_cases c_2 : x0 = 0
    · refine lv_tableIn (tgt := 44) (off := 29) hx hb dX3_grown_15 (by rw [c_2]; decide) (by rw [c_2]; decide) (by rw [c_2]; rfl) (by decide) ?_
      refine lv_lload_n hx hb dX3_grown_44 rfl (lv_at hl 3 rfl) ?_
      exact W.lret hx hb hr (fun t ht _ => ⟨congrArg (fun z => Outcome.returned (some (Value.long z))) (by unfold fX3_grown; rw [if_pos c_1, if_pos c_2]), ht⟩) (fun _ h => nomatch h) dX3_grown_45
    · by_cases c_3 : x0 = 1
      · refine lv_tableIn (tgt := 46) (off := 31) hx hb dX3_grown_15 (by rw [c_3]; decide) (by rw [c_3]; decide) (by rw [c_3]; rfl) (by decide) ?_
        refine lv_lload_n hx hb dX3_grown_46 rfl (lv_at hl 2 rfl) ?_
        refine lv_lload_n hx hb dX3_grown_47 rfl (lv_at hl 3 rfl) ?_
        refine pl_le (tgt := 56) hx hb dX3_grown_48 dX3_grown_49 (by decide) (fun c_4 => ?_) (fun c_4 => ?_)
        · refine lv_lload_n hx hb dX3_grown_56 rfl (lv_at hl 3 rfl) ?_
          exact W.lret hx hb hr (fun t ht _ => ⟨congrArg (fun z => Outcome.returned (some (Value.long z))) (by unfold fX3_grown; rw [if_pos c_1, if_neg c_2, if_pos c_3, if_pos c_4]), ht⟩) (fun _ h => nomatch h) dX3_grown_57
        · refine lv_lload_n hx hb dX3_grown_52 rfl (lv_at hl 2 rfl) ?_
          refine lv_goto (tgt := 57) hx hb dX3_grown_53 (by decide) ?_
          exact W.lret hx hb hr (fun t ht _ => ⟨congrArg (fun z => Outcome.returned (some (Value.long z))) (by unfold fX3_grown; rw [if_pos c_1, if_neg c_2, if_pos c_3, if_neg c_4]), ht⟩) (fun _ h => nomatch h) dX3_grown_57
      · by_cases c_5 : x0 = 2
        · refine lv_tableIn (tgt := 58) (off := 43) hx hb dX3_grown_15 (by rw [c_5]; decide) (by rw [c_5]; decide) (by rw [c_5]; rfl) (by decide) ?_
          refine lv_lload_n hx hb dX3_grown_58 rfl (lv_at hl 2 rfl) ?_
          refine lv_lload_n hx hb dX3_grown_59 rfl (lv_at hl 3 rfl) ?_
          refine pl_ge (tgt := 68) hx hb dX3_grown_60 dX3_grown_61 (by decide) (fun c_6 => ?_) (fun c_6 => ?_)
          · refine lv_lload_n hx hb dX3_grown_68 rfl (lv_at hl 3 rfl) ?_
            exact W.lret hx hb hr (fun t ht _ => ⟨congrArg (fun z => Outcome.returned (some (Value.long z))) (by unfold fX3_grown; rw [if_pos c_1, if_neg c_2, if_neg c_3, if_pos c_5, if_pos c_6]), ht⟩) (fun _ h => nomatch h) dX3_grown_69
          · refine lv_lload_n hx hb dX3_grown_64 rfl (lv_at hl 2 rfl) ?_
            refine lv_goto (tgt := 69) hx hb dX3_grown_65 (by decide) ?_
            exact W.lret hx hb hr (fun t ht _ => ⟨congrArg (fun z => Outcome.returned (some (Value.long z))) (by unfold fX3_grown; rw [if_pos c_1, if_neg c_2, if_neg c_3, if_pos c_5, if_neg c_6]), ht⟩) (fun _ h => nomatch h) dX3_grown_69
        · by_cases c_7 : x0 = 3
          · refine lv_tableIn (tgt := 70) (off := 55) hx hb dX3_grown_15 (by rw [c_7]; decide) (by rw [c_7]; decide) (by rw [c_7]; rfl) (by decide) ?_
            refine lv_lload hx hb dX3_grown_70 (lv_at hl 0 rfl) ?_
            exact W.lret hx hb hr (fun t ht _ => ⟨congrArg (fun z => Outcome.returned (some (Value.long z))) (by unfold fX3_grown; rw [if_pos c_1, if_neg c_2, if_neg c_3, if_neg c_5, if_pos c_7]), ht⟩) (fun _ h => nomatch h) dX3_grown_72
          · refine lv_tableOut (tgt := 73) hx hb dX3_grown_15 (by have h0 := lv_neT c_2 (a := 0) rfl; have h1 := lv_neT c_3 (a := 1) rfl; have h2 := lv_neT c_5 (a := 2) rfl; have h3 := lv_neT c_7 (a := 3) rfl; omega) (by decide) ?_
            refine lv_lload_n hx hb dX3_grown_73 rfl (lv_at hl 2 rfl) ?_
            refine lv_lconst (v := 0) hx hb dX3_grown_74 (by decide) ?_
            refine pl_ge (tgt := 84) hx hb dX3_grown_75 dX3_grown_76 (by decide) (fun c_8 => ?_) (fun c_8 => ?_)
            · refine lv_lload_n hx hb dX3_grown_84 rfl (lv_at hl 2 rfl) ?_
              refine lv_lload hx hb dX3_grown_85 (lv_at hl 0 rfl) ?_
              refine lv_lsub hx hb dX3_grown_87 ?_
              exact W.lret hx hb hr (fun t ht _ => ⟨congrArg (fun z => Outcome.returned (some (Value.long z))) (by unfold fX3_grown; rw [if_pos c_1, if_neg c_2, if_neg c_3, if_neg c_5, if_neg c_7, if_pos c_8]), ht⟩) (fun _ h => nomatch h) dX3_grown_88
            · refine lv_lload_n hx hb dX3_grown_79 rfl (lv_at hl 2 rfl) ?_
              refine lv_lneg hx hb dX3_grown_80 ?_
              refine lv_goto (tgt := 85) hx hb dX3_grown_81 (by decide) ?_
              refine lv_lload hx hb dX3_grown_85 (lv_at hl 0 rfl) ?_
              refine lv_lsub hx hb dX3_grown_87 ?_
              exact W.lret hx hb hr (fun t ht _ => ⟨congrArg (fun z => Outcome.returned (some (Value.long z))) (by unfold fX3_grown; rw [if_pos c_1, if_neg c_2, if_neg c_3, if_neg c_5, if_neg c_7, if_neg c_8]), ht⟩) (fun _ h => nomatch h) dX3_grown_88
  · refine lv_lload_n hx hb dX3_grown_6 rfl (lv_at hl 2 rfl) ?_
    refine lv_lneg hx hb dX3_grown_7 ?_
    refine lv_goto (tgt := 12) hx hb dX3_grown_8 (by decide) ?_
    refine lv_lstore (lv' := [(5, .long (-x3)), (0, .int x0), (1, .long x1), (3, .long x3)]) hx hb dX3_grown_12 hl (by decide) rfl (fun ls hl => ?_)
    refine lv_iload_n hx hb dX3_grown_14 rfl (lv_at hl 1 rfl) ?_
    by_cases c_9 : x0 = 0
    · refine lv_tableIn (tgt := 44) (off := 29) hx hb dX3_grown_15 (by rw [c_9]; decide) (by rw [c_9]; decide) (by rw [c_9]; rfl) (by decide) ?_
      refine lv_lload_n hx hb dX3_grown_44 rfl (lv_at hl 3 rfl) ?_
      exact W.lret hx hb hr (fun t ht _ => ⟨congrArg (fun z => Outcome.returned (some (Value.long z))) (by unfold fX3_grown; rw [if_neg c_1, if_pos c_9]), ht⟩) (fun _ h => nomatch h) dX3_grown_45
    · by_cases c_10 : x0 = 1
      · refine lv_tableIn (tgt := 46) (off := 31) hx hb dX3_grown_15 (by rw [c_10]; decide) (by rw [c_10]; decide) (by rw [c_10]; rfl) (by decide) ?_
        refine lv_lload_n hx hb dX3_grown_46 rfl (lv_at hl 2 rfl) ?_
        refine lv_lload_n hx hb dX3_grown_47 rfl (lv_at hl 3 rfl) ?_
        refine pl_le (tgt := 56) hx hb dX3_grown_48 dX3_grown_49 (by decide) (fun c_11 => ?_) (fun c_11 => ?_)
        · refine lv_lload_n hx hb dX3_grown_56 rfl (lv_at hl 3 rfl) ?_
          exact W.lret hx hb hr (fun t ht _ => ⟨congrArg (fun z => Outcome.returned (some (Value.long z))) (by unfold fX3_grown; rw [if_neg c_1, if_neg c_9, if_pos c_10, if_pos c_11]), ht⟩) (fun _ h => nomatch h) dX3_grown_57
        · refine lv_lload_n hx hb dX3_grown_52 rfl (lv_at hl 2 rfl) ?_
          refine lv_goto (tgt := 57) hx hb dX3_grown_53 (by decide) ?_
          exact W.lret hx hb hr (fun t ht _ => ⟨congrArg (fun z => Outcome.returned (some (Value.long z))) (by unfold fX3_grown; rw [if_neg c_1, if_neg c_9, if_pos c_10, if_neg c_11]), ht⟩) (fun _ h => nomatch h) dX3_grown_57
      · by_cases c_12 : x0 = 2
        · refine lv_tableIn (tgt := 58) (off := 43) hx hb dX3_grown_15 (by rw [c_12]; decide) (by rw [c_12]; decide) (by rw [c_12]; rfl) (by decide) ?_
          refine lv_lload_n hx hb dX3_grown_58 rfl (lv_at hl 2 rfl) ?_
          refine lv_lload_n hx hb dX3_grown_59 rfl (lv_at hl 3 rfl) ?_
          refine pl_ge (tgt := 68) hx hb dX3_grown_60 dX3_grown_61 (by decide) (fun c_13 => ?_) (fun c_13 => ?_)
          · refine lv_lload_n hx hb dX3_grown_68 rfl (lv_at hl 3 rfl) ?_
            exact W.lret hx hb hr (fun t ht _ => ⟨congrArg (fun z => Outcome.returned (some (Value.long z))) (by unfold fX3_grown; rw [if_neg c_1, if_neg c_9, if_neg c_10, if_pos c_12, if_pos c_13]), ht⟩) (fun _ h => nomatch h) dX3_grown_69
          · refine lv_lload_n hx hb dX3_grown_64 rfl (lv_at hl 2 rfl) ?_
            refine lv_goto (tgt := 69) hx hb dX3_grown_65 (by decide) ?_
            exact W.lret hx hb hr (fun t ht _ => ⟨congrArg (fun z => Outcome.returned (some (Value.long z))) (by unfold fX3_grown; rw [if_neg c_1, if_neg c_9, if_neg c_10, if_pos c_12, if_neg c_13]), ht⟩) (fun _ h => nomatch h) dX3_grown_69
        · by_cases c_14 : x0 = 3
          · refine lv_tableIn (tgt := 70) (off := 55) hx hb dX3_grown_15 (by rw [c_14]; decide) (by rw [c_14]; decide) (by rw [c_14]; rfl) (by decide) ?_
            refine lv_lload hx hb dX3_grown_70 (lv_at hl 0 rfl) ?_
            exact W.lret hx hb hr (fun t ht _ => ⟨congrArg (fun z => Outcome.returned (some (Value.long z))) (by unfold fX3_grown; rw [if_neg c_1, if_neg c_9, if_neg c_10, if_neg c_12, if_pos c_14]), ht⟩) (fun _ h => nomatch h) dX3_grown_72
          · refine lv_tableOut (tgt := 73) hx hb dX3_grown_15 (by have h0 := lv_neT c_9 (a := 0) rfl; have h1 := lv_neT c_10 (a := 1) rfl; have h2 := lv_neT c_12 (a := 2) rfl; have h3 := lv_neT c_14 (a := 3) rfl; omega) (by decide) ?_
            refine lv_lload_n hx hb dX3_grown_73 rfl (lv_at hl 2 rfl) ?_
            refine lv_lconst (v := 0) hx hb dX3_grown_74 (by decide) ?_
            refine pl_ge (tgt := 84) hx hb dX3_grown_75 dX3_grown_76 (by decide) (fun c_15 => ?_) (fun c_15 => ?_)
            · refine lv_lload_n hx hb dX3_grown_84 rfl (lv_at hl 2 rfl) ?_
              refine lv_lload hx hb dX3_grown_85 (lv_at hl 0 rfl) ?_
              refine lv_lsub hx hb dX3_grown_87 ?_
              exact W.lret hx hb hr (fun t ht _ => ⟨congrArg (fun z => Outcome.returned (some (Value.long z))) (by unfold fX3_grown; rw [if_neg c_1, if_neg c_9, if_neg c_10, if_neg c_12, if_neg c_14, if_pos c_15]), ht⟩) (fun _ h => nomatch h) dX3_grown_88
            · refine lv_lload_n hx hb dX3_grown_79 rfl (lv_at hl 2 rfl) ?_
              refine lv_lneg hx hb dX3_grown_80 ?_
              refine lv_goto (tgt := 85) hx hb dX3_grown_81 (by decide) ?_
              refine lv_lload hx hb dX3_grown_85 (lv_at hl 0 rfl) ?_
              refine lv_lsub hx hb dX3_grown_87 ?_
              exact W.lret hx hb hr (fun t ht _ => ⟨congrArg (fun z => Outcome.returned (some (Value.long z))) (by unfold fX3_grown; rw [if_neg c_1, if_neg c_9, if_neg c_10, if_neg c_12, if_neg c_14, if_neg c_15]), ht⟩) (fun _ h => nomatch h) dX3_grown_88
