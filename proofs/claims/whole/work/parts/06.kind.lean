def fX0_sizeOf (i : Nat) (x1 : Int64) : Int64 :=
  x1 &&& ((kSide i) ^^^ (-1 : Int64))
theorem hd_X0_sizeOf : yX0_sizeOf.cls = RX0 ∧ yX0_sizeOf.cls ≠ "java/lang/invoke/MethodHandle" ∧ yX0_sizeOf.cls ≠ "java/lang/invoke/VarHandle" ∧ (parseMethodDescriptor yX0_sizeOf.desc).map (fun d => d.parameters.length) = some 1 := by decide +kernel
set_option maxHeartbeats 4000000 in
set_option maxRecDepth 100000 in
theorem c_X0_sizeOf (l : Launch) (ad : Nat → Nat) (i : Nat) (hi : i < 2) (x1 : Int64) : Met l yX0_sizeOf wsX0_sizeOf ({ frames := 0, cells := 0, slots := 0, locals := 0 }) (PK ad [.ref (ad i), .long x1]) (k2_QcV (.long (fX0_sizeOf i x1))) 0 0 (fun _ => False) := by
  refine Met.ofW (cc := cX0_sizeOf) (maxL := 3) (ret := (some .long)) (by decide) rfl ?_
  intro p e s m args below meth c s₁ B hml hv
  obtain ⟨rfl, hKC⟩ := hv
  have hx := B.exec
  have hb := B.bytes
  have hr := B.returns
  have hts := atoms_spec (ws := wsX0_sizeOf) B.pre
  have hown : s.vm.findClass RX0 = some m.cls := findClass_of_methodNamed B.named
  have hlocks := B.notSynchronized
  have hS : va_S (fun _ => False) s.heap s.heap [] := va_S.rf
  have hl := lv_entry ([.ref (ad i), .long x1]) (n := 3) (Nat.le_of_ble_eq_true rfl)
  rw [lg_entry_eq]
  generalize (lg_sl ([.ref (ad i), .long x1]) ++ List.replicate (3 - (lg_sl ([.ref (ad i), .long x1])).length) Slot.unset).toArray = ls at hl ⊢
  have hl : lv_has ls 3 [(0, .ref (ad i)), (1, .long x1)] := hl
  refine lv_lload_n hx hb dX0_sizeOf_0 rfl (lv_at hl 1 rfl) ?_
  refine lv_aload_n hx hb dX0_sizeOf_1 rfl (lv_at hl 0 rfl) ?_
  refine pk_side hx hb hKC hi hS hown (hts (.fieldLink RX0 36 "NeedleBoard$Kind" "sideBits" "J") (by decide +kernel)) dX0_sizeOf_2 ?_
  refine lv_ldc2 (v := (-1)) hx hb hown (hts (.constantLong RX0 70 (-1)) (by decide +kernel)) dX0_sizeOf_5 ?_
  refine lv_lxor hx hb dX0_sizeOf_8 ?_
  refine lv_land hx hb dX0_sizeOf_9 ?_
  exact W.lret hx hb hr (fun t ht _ => ⟨congrArg (fun z => Outcome.returned (some (Value.long z))) rfl, ht⟩) (fun _ h => nomatch h) dX0_sizeOf_10
def fX0_rankOf (i : Nat) (x1 : Int64) : Int64 :=
  if (0 : Int64) ≤ x1 then
    x1
  else
    x1 ^^^ ((kSide i) ^^^ (-1 : Int64))
theorem hd_X0_rankOf : yX0_rankOf.cls = RX0 ∧ yX0_rankOf.cls ≠ "java/lang/invoke/MethodHandle" ∧ yX0_rankOf.cls ≠ "java/lang/invoke/VarHandle" ∧ (parseMethodDescriptor yX0_rankOf.desc).map (fun d => d.parameters.length) = some 1 := by decide +kernel
set_option maxHeartbeats 4000000 in
set_option maxRecDepth 100000 in
theorem c_X0_rankOf (l : Launch) (ad : Nat → Nat) (i : Nat) (hi : i < 2) (x1 : Int64) : Met l yX0_rankOf wsX0_rankOf ({ frames := 0, cells := 0, slots := 0, locals := 0 }) (PK ad [.ref (ad i), .long x1]) (k2_QcV (.long (fX0_rankOf i x1))) 0 0 (fun _ => False) := by
  refine Met.ofW (cc := cX0_rankOf) (maxL := 3) (ret := (some .long)) (by decide) rfl ?_
  intro p e s m args below meth c s₁ B hml hv
  obtain ⟨rfl, hKC⟩ := hv
  have hx := B.exec
  have hb := B.bytes
  have hr := B.returns
  have hts := atoms_spec (ws := wsX0_rankOf) B.pre
  have hown : s.vm.findClass RX0 = some m.cls := findClass_of_methodNamed B.named
  have hlocks := B.notSynchronized
  have hS : va_S (fun _ => False) s.heap s.heap [] := va_S.rf
  have hl := lv_entry ([.ref (ad i), .long x1]) (n := 3) (Nat.le_of_ble_eq_true rfl)
  rw [lg_entry_eq]
  generalize (lg_sl ([.ref (ad i), .long x1]) ++ List.replicate (3 - (lg_sl ([.ref (ad i), .long x1])).length) Slot.unset).toArray = ls at hl ⊢
  have hl : lv_has ls 3 [(0, .ref (ad i)), (1, .long x1)] := hl
  refine lv_lload_n hx hb dX0_rankOf_0 rfl (lv_at hl 1 rfl) ?_
  refine lv_lconst (v := 0) hx hb dX0_rankOf_1 (by decide) ?_
  refine pl_ge (tgt := 19) hx hb dX0_rankOf_2 dX0_rankOf_3 (by decide) (fun c_1 => ?_) (fun c_1 => ?_)
  · refine lv_lload_n hx hb dX0_rankOf_19 rfl (lv_at hl 1 rfl) ?_
    exact W.lret hx hb hr (fun t ht _ => ⟨congrArg (fun z => Outcome.returned (some (Value.long z))) (by unfold fX0_rankOf; rw [if_pos c_1]), ht⟩) (fun _ h => nomatch h) dX0_rankOf_20
  · refine lv_lload_n hx hb dX0_rankOf_6 rfl (lv_at hl 1 rfl) ?_
    refine lv_aload_n hx hb dX0_rankOf_7 rfl (lv_at hl 0 rfl) ?_
    refine pk_side hx hb hKC hi hS hown (hts (.fieldLink RX0 36 "NeedleBoard$Kind" "sideBits" "J") (by decide +kernel)) dX0_rankOf_8 ?_
    refine lv_ldc2 (v := (-1)) hx hb hown (hts (.constantLong RX0 70 (-1)) (by decide +kernel)) dX0_rankOf_11 ?_
    refine lv_lxor hx hb dX0_rankOf_14 ?_
    refine lv_lxor hx hb dX0_rankOf_15 ?_
    refine lv_goto (tgt := 20) hx hb dX0_rankOf_16 (by decide) ?_
    exact W.lret hx hb hr (fun t ht _ => ⟨congrArg (fun z => Outcome.returned (some (Value.long z))) (by unfold fX0_rankOf; rw [if_neg c_1]), ht⟩) (fun _ h => nomatch h) dX0_rankOf_20
def fX0_isBelow (i : Nat) (x1 : Int64) (x3 : Int64) : Int32 :=
  if (fX0_rankOf i x3) ≤ (fX0_rankOf i x1) then
    (0 : Int32)
  else
    (1 : Int32)
theorem hd_X0_isBelow : yX0_isBelow.cls = RX0 ∧ yX0_isBelow.cls ≠ "java/lang/invoke/MethodHandle" ∧ yX0_isBelow.cls ≠ "java/lang/invoke/VarHandle" ∧ (parseMethodDescriptor yX0_isBelow.desc).map (fun d => d.parameters.length) = some 2 := by decide +kernel
set_option maxHeartbeats 4000000 in
set_option maxRecDepth 100000 in
theorem c_X0_isBelow (l : Launch) (ad : Nat → Nat) (i : Nat) (hi : i < 2) (x1 : Int64) (x3 : Int64) : Met l yX0_isBelow wsX0_isBelow ({ frames := 1, cells := 0, slots := 0, locals := 22 }) (PK ad [.ref (ad i), .long x1, .long x3]) (k2_QcV (.int (fX0_isBelow i x1 x3))) 0 0 (fun _ => False) := by
  refine Met.ofW (cc := cX0_isBelow) (maxL := 5) (ret := (some .boolean)) (by decide) rfl ?_
  intro p e s m args below meth c s₁ B hml hv
  obtain ⟨rfl, hKC⟩ := hv
  have hx := B.exec
  have hb := B.bytes
  have hr := B.returns
  have hts := atoms_spec (ws := wsX0_isBelow) B.pre
  have hown : s.vm.findClass RX0 = some m.cls := findClass_of_methodNamed B.named
  have hlocks := B.notSynchronized
  have hS : va_S (fun _ => False) s.heap s.heap [] := va_S.rf
  have hl := lv_entry ([.ref (ad i), .long x1, .long x3]) (n := 5) (Nat.le_of_ble_eq_true rfl)
  rw [lg_entry_eq]
  generalize (lg_sl ([.ref (ad i), .long x1, .long x3]) ++ List.replicate (5 - (lg_sl ([.ref (ad i), .long x1, .long x3])).length) Slot.unset).toArray = ls at hl ⊢
  have hl : lv_has ls 5 [(0, .ref (ad i)), (1, .long x1), (3, .long x3)] := hl
  refine lv_aload_n hx hb dX0_isBelow_0 rfl (lv_at hl 0 rfl) ?_
  refine lv_lload_n hx hb dX0_isBelow_1 rfl (lv_at hl 1 rfl) ?_
  refine pc_V (i := i) (As := [.long x1]) (rest := []) (r := .long (fX0_rankOf i x1)) ⟨hx, hb, hml, hown, hts⟩ (c_X0_rankOf l ad i hi x1) (cwV 1 hts gX0_isBelow_X0_rankOf rfl rfl rfl hd_X0_rankOf ⟨Nat.le_of_ble_eq_true rfl, Nat.le_of_ble_eq_true rfl⟩) hKC hS hi rfl hl.1 rfl (lv_room (Nat.le_of_ble_eq_true rfl)) dX0_isBelow_2 ⟨Nat.zero_le _, Nat.zero_le _⟩ ?_
  refine lv_aload_n hx hb dX0_isBelow_5 rfl (lv_at hl 0 rfl) ?_
  refine lv_lload_n hx hb dX0_isBelow_6 rfl (lv_at hl 2 rfl) ?_
  refine pc_V (i := i) (As := [.long x3]) (rest := [.long (fX0_rankOf i x1)]) (r := .long (fX0_rankOf i x3)) ⟨hx, hb, hml, hown, hts⟩ (c_X0_rankOf l ad i hi x3) (cwV 1 hts gX0_isBelow_X0_rankOf rfl rfl rfl hd_X0_rankOf ⟨Nat.le_of_ble_eq_true rfl, Nat.le_of_ble_eq_true rfl⟩) hKC hS hi rfl hl.1 rfl (lv_room (Nat.le_of_ble_eq_true rfl)) dX0_isBelow_7 ⟨Nat.zero_le _, Nat.zero_le _⟩ ?_
  refine pl_ge (tgt := 18) hx hb dX0_isBelow_10 dX0_isBelow_11 (by decide) (fun c_1 => ?_) (fun c_1 => ?_)
  · refine lv_iconst (v := 0) hx hb dX0_isBelow_18 (by decide) ?_
    exact W.zret hx hb hr (by decide) (fun t ht _ => ⟨congrArg (fun z => Outcome.returned (some (Value.int z))) (by unfold fX0_isBelow; rw [if_pos c_1]), ht⟩) (fun _ h => nomatch h) dX0_isBelow_19
  · refine lv_iconst (v := 1) hx hb dX0_isBelow_14 (by decide) ?_
    refine lv_goto (tgt := 19) hx hb dX0_isBelow_15 (by decide) ?_
    exact W.zret hx hb hr (by decide) (fun t ht _ => ⟨congrArg (fun z => Outcome.returned (some (Value.int z))) (by unfold fX0_isBelow; rw [if_neg c_1]), ht⟩) (fun _ h => nomatch h) dX0_isBelow_19
def fX0_lesserOf (i : Nat) (x1 : Int64) (x3 : Int64) : Int64 :=
  if (fX0_isBelow i x3 x1) = 0 then
    x1
  else
    x3
theorem hd_X0_lesserOf : yX0_lesserOf.cls = RX0 ∧ yX0_lesserOf.cls ≠ "java/lang/invoke/MethodHandle" ∧ yX0_lesserOf.cls ≠ "java/lang/invoke/VarHandle" ∧ (parseMethodDescriptor yX0_lesserOf.desc).map (fun d => d.parameters.length) = some 2 := by decide +kernel
set_option maxHeartbeats 4000000 in
set_option maxRecDepth 100000 in
theorem c_X0_lesserOf (l : Launch) (ad : Nat → Nat) (i : Nat) (hi : i < 2) (x1 : Int64) (x3 : Int64) : Met l yX0_lesserOf wsX0_lesserOf ({ frames := 2, cells := 0, slots := 0, locals := 46 }) (PK ad [.ref (ad i), .long x1, .long x3]) (k2_QcV (.long (fX0_lesserOf i x1 x3))) 0 0 (fun _ => False) := by
  refine Met.ofW (cc := cX0_lesserOf) (maxL := 5) (ret := (some .long)) (by decide) rfl ?_
  intro p e s m args below meth c s₁ B hml hv
  obtain ⟨rfl, hKC⟩ := hv
  have hx := B.exec
  have hb := B.bytes
  have hr := B.returns
  have hts := atoms_spec (ws := wsX0_lesserOf) B.pre
  have hown : s.vm.findClass RX0 = some m.cls := findClass_of_methodNamed B.named
  have hlocks := B.notSynchronized
  have hS : va_S (fun _ => False) s.heap s.heap [] := va_S.rf
  have hl := lv_entry ([.ref (ad i), .long x1, .long x3]) (n := 5) (Nat.le_of_ble_eq_true rfl)
  rw [lg_entry_eq]
  generalize (lg_sl ([.ref (ad i), .long x1, .long x3]) ++ List.replicate (5 - (lg_sl ([.ref (ad i), .long x1, .long x3])).length) Slot.unset).toArray = ls at hl ⊢
  have hl : lv_has ls 5 [(0, .ref (ad i)), (1, .long x1), (3, .long x3)] := hl
  refine lv_aload_n hx hb dX0_lesserOf_0 rfl (lv_at hl 0 rfl) ?_
  refine lv_lload_n hx hb dX0_lesserOf_1 rfl (lv_at hl 2 rfl) ?_
  refine lv_lload_n hx hb dX0_lesserOf_2 rfl (lv_at hl 1 rfl) ?_
  refine pc_V (i := i) (As := [.long x3, .long x1]) (rest := []) (r := .int (fX0_isBelow i x3 x1)) ⟨hx, hb, hml, hown, hts⟩ (c_X0_isBelow l ad i hi x3 x1) (cwV 2 hts gX0_lesserOf_X0_isBelow rfl rfl rfl hd_X0_isBelow ⟨Nat.le_of_ble_eq_true rfl, Nat.le_of_ble_eq_true rfl⟩) hKC hS hi rfl hl.1 rfl (lv_room (Nat.le_of_ble_eq_true rfl)) dX0_lesserOf_3 ⟨Nat.zero_le _, Nat.zero_le _⟩ ?_
  refine lv_if_eq (tgt := 13) hx hb dX0_lesserOf_6 (by decide) (fun c_1 => ?_) (fun c_1 => ?_)
  · refine lv_lload_n hx hb dX0_lesserOf_13 rfl (lv_at hl 1 rfl) ?_
    exact W.lret hx hb hr (fun t ht _ => ⟨congrArg (fun z => Outcome.returned (some (Value.long z))) (by unfold fX0_lesserOf; rw [if_pos c_1]), ht⟩) (fun _ h => nomatch h) dX0_lesserOf_14
  · refine lv_lload_n hx hb dX0_lesserOf_9 rfl (lv_at hl 2 rfl) ?_
    refine lv_goto (tgt := 14) hx hb dX0_lesserOf_10 (by decide) ?_
    exact W.lret hx hb hr (fun t ht _ => ⟨congrArg (fun z => Outcome.returned (some (Value.long z))) (by unfold fX0_lesserOf; rw [if_neg c_1]), ht⟩) (fun _ h => nomatch h) dX0_lesserOf_14
def fX0_greaterOf (i : Nat) (x1 : Int64) (x3 : Int64) : Int64 :=
  if (fX0_isBelow i x1 x3) = 0 then
    x1
  else
    x3
theorem hd_X0_greaterOf : yX0_greaterOf.cls = RX0 ∧ yX0_greaterOf.cls ≠ "java/lang/invoke/MethodHandle" ∧ yX0_greaterOf.cls ≠ "java/lang/invoke/VarHandle" ∧ (parseMethodDescriptor yX0_greaterOf.desc).map (fun d => d.parameters.length) = some 2 := by decide +kernel
set_option maxHeartbeats 4000000 in
set_option maxRecDepth 100000 in
theorem c_X0_greaterOf (l : Launch) (ad : Nat → Nat) (i : Nat) (hi : i < 2) (x1 : Int64) (x3 : Int64) : Met l yX0_greaterOf wsX0_greaterOf ({ frames := 2, cells := 0, slots := 0, locals := 46 }) (PK ad [.ref (ad i), .long x1, .long x3]) (k2_QcV (.long (fX0_greaterOf i x1 x3))) 0 0 (fun _ => False) := by
  refine Met.ofW (cc := cX0_greaterOf) (maxL := 5) (ret := (some .long)) (by decide) rfl ?_
  intro p e s m args below meth c s₁ B hml hv
  obtain ⟨rfl, hKC⟩ := hv
  have hx := B.exec
  have hb := B.bytes
  have hr := B.returns
  have hts := atoms_spec (ws := wsX0_greaterOf) B.pre
  have hown : s.vm.findClass RX0 = some m.cls := findClass_of_methodNamed B.named
  have hlocks := B.notSynchronized
  have hS : va_S (fun _ => False) s.heap s.heap [] := va_S.rf
  have hl := lv_entry ([.ref (ad i), .long x1, .long x3]) (n := 5) (Nat.le_of_ble_eq_true rfl)
  rw [lg_entry_eq]
  generalize (lg_sl ([.ref (ad i), .long x1, .long x3]) ++ List.replicate (5 - (lg_sl ([.ref (ad i), .long x1, .long x3])).length) Slot.unset).toArray = ls at hl ⊢
  have hl : lv_has ls 5 [(0, .ref (ad i)), (1, .long x1), (3, .long x3)] := hl
  refine lv_aload_n hx hb dX0_greaterOf_0 rfl (lv_at hl 0 rfl) ?_
  refine lv_lload_n hx hb dX0_greaterOf_1 rfl (lv_at hl 1 rfl) ?_
  refine lv_lload_n hx hb dX0_greaterOf_2 rfl (lv_at hl 2 rfl) ?_
  refine pc_V (i := i) (As := [.long x1, .long x3]) (rest := []) (r := .int (fX0_isBelow i x1 x3)) ⟨hx, hb, hml, hown, hts⟩ (c_X0_isBelow l ad i hi x1 x3) (cwV 2 hts gX0_greaterOf_X0_isBelow rfl rfl rfl hd_X0_isBelow ⟨Nat.le_of_ble_eq_true rfl, Nat.le_of_ble_eq_true rfl⟩) hKC hS hi rfl hl.1 rfl (lv_room (Nat.le_of_ble_eq_true rfl)) dX0_greaterOf_3 ⟨Nat.zero_le _, Nat.zero_le _⟩ ?_
  refine lv_if_eq (tgt := 13) hx hb dX0_greaterOf_6 (by decide) (fun c_1 => ?_) (fun c_1 => ?_)
  · refine lv_lload_n hx hb dX0_greaterOf_13 rfl (lv_at hl 1 rfl) ?_
    exact W.lret hx hb hr (fun t ht _ => ⟨congrArg (fun z => Outcome.returned (some (Value.long z))) (by unfold fX0_greaterOf; rw [if_pos c_1]), ht⟩) (fun _ h => nomatch h) dX0_greaterOf_14
  · refine lv_lload_n hx hb dX0_greaterOf_9 rfl (lv_at hl 2 rfl) ?_
    refine lv_goto (tgt := 14) hx hb dX0_greaterOf_10 (by decide) ?_
    exact W.lret hx hb hr (fun t ht _ => ⟨congrArg (fun z => Outcome.returned (some (Value.long z))) (by unfold fX0_greaterOf; rw [if_neg c_1]), ht⟩) (fun _ h => nomatch h) dX0_greaterOf_14
def fX0_withSideOf (i : Nat) (x1 : Int64) (x3 : Int64) : Int64 :=
  if (0 : Int64) ≤ x3 then
    fX0_sizeOf i x1
  else
    x1 ||| (kSide i)
theorem hd_X0_withSideOf : yX0_withSideOf.cls = RX0 ∧ yX0_withSideOf.cls ≠ "java/lang/invoke/MethodHandle" ∧ yX0_withSideOf.cls ≠ "java/lang/invoke/VarHandle" ∧ (parseMethodDescriptor yX0_withSideOf.desc).map (fun d => d.parameters.length) = some 2 := by decide +kernel
set_option maxHeartbeats 4000000 in
set_option maxRecDepth 100000 in
theorem c_X0_withSideOf (l : Launch) (ad : Nat → Nat) (i : Nat) (hi : i < 2) (x1 : Int64) (x3 : Int64) : Met l yX0_withSideOf wsX0_withSideOf ({ frames := 1, cells := 0, slots := 0, locals := 22 }) (PK ad [.ref (ad i), .long x1, .long x3]) (k2_QcV (.long (fX0_withSideOf i x1 x3))) 0 0 (fun _ => False) := by
  refine Met.ofW (cc := cX0_withSideOf) (maxL := 5) (ret := (some .long)) (by decide) rfl ?_
  intro p e s m args below meth c s₁ B hml hv
  obtain ⟨rfl, hKC⟩ := hv
  have hx := B.exec
  have hb := B.bytes
  have hr := B.returns
  have hts := atoms_spec (ws := wsX0_withSideOf) B.pre
  have hown : s.vm.findClass RX0 = some m.cls := findClass_of_methodNamed B.named
  have hlocks := B.notSynchronized
  have hS : va_S (fun _ => False) s.heap s.heap [] := va_S.rf
  have hl := lv_entry ([.ref (ad i), .long x1, .long x3]) (n := 5) (Nat.le_of_ble_eq_true rfl)
  rw [lg_entry_eq]
  generalize (lg_sl ([.ref (ad i), .long x1, .long x3]) ++ List.replicate (5 - (lg_sl ([.ref (ad i), .long x1, .long x3])).length) Slot.unset).toArray = ls at hl ⊢
  have hl : lv_has ls 5 [(0, .ref (ad i)), (1, .long x1), (3, .long x3)] := hl
  refine lv_lload_n hx hb dX0_withSideOf_0 rfl (lv_at hl 2 rfl) ?_
  refine lv_lconst (v := 0) hx hb dX0_withSideOf_1 (by decide) ?_
  refine pl_ge (tgt := 15) hx hb dX0_withSideOf_2 dX0_withSideOf_3 (by decide) (fun c_1 => ?_) (fun c_1 => ?_)
  · refine lv_aload_n hx hb dX0_withSideOf_15 rfl (lv_at hl 0 rfl) ?_
    refine lv_lload_n hx hb dX0_withSideOf_16 rfl (lv_at hl 1 rfl) ?_
    refine pc_V (i := i) (As := [.long x1]) (rest := []) (r := .long (fX0_sizeOf i x1)) ⟨hx, hb, hml, hown, hts⟩ (c_X0_sizeOf l ad i hi x1) (cwV 1 hts gX0_withSideOf_X0_sizeOf rfl rfl rfl hd_X0_sizeOf ⟨Nat.le_of_ble_eq_true rfl, Nat.le_of_ble_eq_true rfl⟩) hKC hS hi rfl hl.1 rfl (lv_room (Nat.le_of_ble_eq_true rfl)) dX0_withSideOf_17 ⟨Nat.zero_le _, Nat.zero_le _⟩ ?_
    exact W.lret hx hb hr (fun t ht _ => ⟨congrArg (fun z => Outcome.returned (some (Value.long z))) (by unfold fX0_withSideOf; rw [if_pos c_1]), ht⟩) (fun _ h => nomatch h) dX0_withSideOf_20
  · refine lv_lload_n hx hb dX0_withSideOf_6 rfl (lv_at hl 1 rfl) ?_
    refine lv_aload_n hx hb dX0_withSideOf_7 rfl (lv_at hl 0 rfl) ?_
    refine pk_side hx hb hKC hi hS hown (hts (.fieldLink RX0 36 "NeedleBoard$Kind" "sideBits" "J") (by decide +kernel)) dX0_withSideOf_8 ?_
    refine lv_lor hx hb dX0_withSideOf_11 ?_
    refine lv_goto (tgt := 20) hx hb dX0_withSideOf_12 (by decide) ?_
    exact W.lret hx hb hr (fun t ht _ => ⟨congrArg (fun z => Outcome.returned (some (Value.long z))) (by unfold fX0_withSideOf; rw [if_neg c_1]), ht⟩) (fun _ h => nomatch h) dX0_withSideOf_20
def fX0_negated (i : Nat) (x1 : Int64) : Int64 :=
  if (0 : Int64) ≤ x1 then
    x1 ||| (kSide i)
  else
    fX0_sizeOf i x1
theorem hd_X0_negated : yX0_negated.cls = RX0 ∧ yX0_negated.cls ≠ "java/lang/invoke/MethodHandle" ∧ yX0_negated.cls ≠ "java/lang/invoke/VarHandle" ∧ (parseMethodDescriptor yX0_negated.desc).map (fun d => d.parameters.length) = some 1 := by decide +kernel
set_option maxHeartbeats 4000000 in
set_option maxRecDepth 100000 in
theorem c_X0_negated (l : Launch) (ad : Nat → Nat) (i : Nat) (hi : i < 2) (x1 : Int64) : Met l yX0_negated wsX0_negated ({ frames := 1, cells := 0, slots := 0, locals := 22 }) (PK ad [.ref (ad i), .long x1]) (k2_QcV (.long (fX0_negated i x1))) 0 0 (fun _ => False) := by
  refine Met.ofW (cc := cX0_negated) (maxL := 3) (ret := (some .long)) (by decide) rfl ?_
  intro p e s m args below meth c s₁ B hml hv
  obtain ⟨rfl, hKC⟩ := hv
  have hx := B.exec
  have hb := B.bytes
  have hr := B.returns
  have hts := atoms_spec (ws := wsX0_negated) B.pre
  have hown : s.vm.findClass RX0 = some m.cls := findClass_of_methodNamed B.named
  have hlocks := B.notSynchronized
  have hS : va_S (fun _ => False) s.heap s.heap [] := va_S.rf
  have hl := lv_entry ([.ref (ad i), .long x1]) (n := 3) (Nat.le_of_ble_eq_true rfl)
  rw [lg_entry_eq]
  generalize (lg_sl ([.ref (ad i), .long x1]) ++ List.replicate (3 - (lg_sl ([.ref (ad i), .long x1])).length) Slot.unset).toArray = ls at hl ⊢
  have hl : lv_has ls 3 [(0, .ref (ad i)), (1, .long x1)] := hl
  refine lv_lload_n hx hb dX0_negated_0 rfl (lv_at hl 1 rfl) ?_
  refine lv_lconst (v := 0) hx hb dX0_negated_1 (by decide) ?_
  refine pl_ge (tgt := 14) hx hb dX0_negated_2 dX0_negated_3 (by decide) (fun c_1 => ?_) (fun c_1 => ?_)
  · refine lv_lload_n hx hb dX0_negated_14 rfl (lv_at hl 1 rfl) ?_
    refine lv_aload_n hx hb dX0_negated_15 rfl (lv_at hl 0 rfl) ?_
    refine pk_side hx hb hKC hi hS hown (hts (.fieldLink RX0 36 "NeedleBoard$Kind" "sideBits" "J") (by decide +kernel)) dX0_negated_16 ?_
    refine lv_lor hx hb dX0_negated_19 ?_
    exact W.lret hx hb hr (fun t ht _ => ⟨congrArg (fun z => Outcome.returned (some (Value.long z))) (by unfold fX0_negated; rw [if_pos c_1]), ht⟩) (fun _ h => nomatch h) dX0_negated_20
  · refine lv_aload_n hx hb dX0_negated_6 rfl (lv_at hl 0 rfl) ?_
    refine lv_lload_n hx hb dX0_negated_7 rfl (lv_at hl 1 rfl) ?_
    refine pc_V (i := i) (As := [.long x1]) (rest := []) (r := .long (fX0_sizeOf i x1)) ⟨hx, hb, hml, hown, hts⟩ (c_X0_sizeOf l ad i hi x1) (cwV 1 hts gX0_negated_X0_sizeOf rfl rfl rfl hd_X0_sizeOf ⟨Nat.le_of_ble_eq_true rfl, Nat.le_of_ble_eq_true rfl⟩) hKC hS hi rfl hl.1 rfl (lv_room (Nat.le_of_ble_eq_true rfl)) dX0_negated_8 ⟨Nat.zero_le _, Nat.zero_le _⟩ ?_
    refine lv_goto (tgt := 20) hx hb dX0_negated_11 (by decide) ?_
    exact W.lret hx hb hr (fun t ht _ => ⟨congrArg (fun z => Outcome.returned (some (Value.long z))) (by unfold fX0_negated; rw [if_neg c_1]), ht⟩) (fun _ h => nomatch h) dX0_negated_20
def fX0_unitOf (i : Nat) (x1 : Int64) : Int64 :=
  if (fX0_sizeOf i x1) = (0 : Int64) then
    x1
  else
    fX0_withSideOf i (kOne i) x1
theorem hd_X0_unitOf : yX0_unitOf.cls = RX0 ∧ yX0_unitOf.cls ≠ "java/lang/invoke/MethodHandle" ∧ yX0_unitOf.cls ≠ "java/lang/invoke/VarHandle" ∧ (parseMethodDescriptor yX0_unitOf.desc).map (fun d => d.parameters.length) = some 1 := by decide +kernel
set_option maxHeartbeats 4000000 in
set_option maxRecDepth 100000 in
theorem c_X0_unitOf (l : Launch) (ad : Nat → Nat) (i : Nat) (hi : i < 2) (x1 : Int64) : Met l yX0_unitOf wsX0_unitOf ({ frames := 2, cells := 0, slots := 0, locals := 46 }) (PK ad [.ref (ad i), .long x1]) (k2_QcV (.long (fX0_unitOf i x1))) 0 0 (fun _ => False) := by
  refine Met.ofW (cc := cX0_unitOf) (maxL := 3) (ret := (some .long)) (by decide) rfl ?_
  intro p e s m args below meth c s₁ B hml hv
  obtain ⟨rfl, hKC⟩ := hv
  have hx := B.exec
  have hb := B.bytes
  have hr := B.returns
  have hts := atoms_spec (ws := wsX0_unitOf) B.pre
  have hown : s.vm.findClass RX0 = some m.cls := findClass_of_methodNamed B.named
  have hlocks := B.notSynchronized
  have hS : va_S (fun _ => False) s.heap s.heap [] := va_S.rf
  have hl := lv_entry ([.ref (ad i), .long x1]) (n := 3) (Nat.le_of_ble_eq_true rfl)
  rw [lg_entry_eq]
  generalize (lg_sl ([.ref (ad i), .long x1]) ++ List.replicate (3 - (lg_sl ([.ref (ad i), .long x1])).length) Slot.unset).toArray = ls at hl ⊢
  have hl : lv_has ls 3 [(0, .ref (ad i)), (1, .long x1)] := hl
  refine lv_aload_n hx hb dX0_unitOf_0 rfl (lv_at hl 0 rfl) ?_
  refine lv_lload_n hx hb dX0_unitOf_1 rfl (lv_at hl 1 rfl) ?_
  refine pc_V (i := i) (As := [.long x1]) (rest := []) (r := .long (fX0_sizeOf i x1)) ⟨hx, hb, hml, hown, hts⟩ (c_X0_sizeOf l ad i hi x1) (cwV 1 hts gX0_unitOf_X0_sizeOf rfl rfl rfl hd_X0_sizeOf ⟨Nat.le_of_ble_eq_true rfl, Nat.le_of_ble_eq_true rfl⟩) hKC hS hi rfl hl.1 rfl (lv_room (Nat.le_of_ble_eq_true rfl)) dX0_unitOf_2 ⟨Nat.zero_le _, Nat.zero_le _⟩ ?_
  refine lv_lconst (v := 0) hx hb dX0_unitOf_5 (by decide) ?_
  refine pl_ne (tgt := 14) hx hb dX0_unitOf_6 dX0_unitOf_7 (by decide) (fun c_1 => ?_) (fun c_1 => ?_)
  · refine lv_aload_n hx hb dX0_unitOf_14 rfl (lv_at hl 0 rfl) ?_
    refine lv_aload_n hx hb dX0_unitOf_15 rfl (lv_at hl 0 rfl) ?_
    refine pk_one hx hb hKC hi hS hown (hts (.fieldLink RX0 43 "NeedleBoard$Kind" "one" "J") (by decide +kernel)) dX0_unitOf_16 ?_
    refine lv_lload_n hx hb dX0_unitOf_19 rfl (lv_at hl 1 rfl) ?_
    refine pc_V (i := i) (As := [.long (kOne i), .long x1]) (rest := []) (r := .long (fX0_withSideOf i (kOne i) x1)) ⟨hx, hb, hml, hown, hts⟩ (c_X0_withSideOf l ad i hi (kOne i) x1) (cwV 2 hts gX0_unitOf_X0_withSideOf rfl rfl rfl hd_X0_withSideOf ⟨Nat.le_of_ble_eq_true rfl, Nat.le_of_ble_eq_true rfl⟩) hKC hS hi rfl hl.1 rfl (lv_room (Nat.le_of_ble_eq_true rfl)) dX0_unitOf_20 ⟨Nat.zero_le _, Nat.zero_le _⟩ ?_
    exact W.lret hx hb hr (fun t ht _ => ⟨congrArg (fun z => Outcome.returned (some (Value.long z))) (by unfold fX0_unitOf; rw [if_neg c_1]), ht⟩) (fun _ h => nomatch h) dX0_unitOf_23
  · refine lv_lload_n hx hb dX0_unitOf_10 rfl (lv_at hl 1 rfl) ?_
    refine lv_goto (tgt := 23) hx hb dX0_unitOf_11 (by decide) ?_
    exact W.lret hx hb hr (fun t ht _ => ⟨congrArg (fun z => Outcome.returned (some (Value.long z))) (by unfold fX0_unitOf; rw [if_pos c_1]), ht⟩) (fun _ h => nomatch h) dX0_unitOf_23
def fX0_isNumber (i : Nat) (x1 : Int64) : Int32 :=
  if (kInf i) < (fX0_sizeOf i x1) then
    (0 : Int32)
  else
    (1 : Int32)
theorem hd_X0_isNumber : yX0_isNumber.cls = RX0 ∧ yX0_isNumber.cls ≠ "java/lang/invoke/MethodHandle" ∧ yX0_isNumber.cls ≠ "java/lang/invoke/VarHandle" ∧ (parseMethodDescriptor yX0_isNumber.desc).map (fun d => d.parameters.length) = some 1 := by decide +kernel
set_option maxHeartbeats 4000000 in
set_option maxRecDepth 100000 in
theorem c_X0_isNumber (l : Launch) (ad : Nat → Nat) (i : Nat) (hi : i < 2) (x1 : Int64) : Met l yX0_isNumber wsX0_isNumber ({ frames := 1, cells := 0, slots := 0, locals := 22 }) (PK ad [.ref (ad i), .long x1]) (k2_QcV (.int (fX0_isNumber i x1))) 0 0 (fun _ => False) := by
  refine Met.ofW (cc := cX0_isNumber) (maxL := 3) (ret := (some .boolean)) (by decide) rfl ?_
  intro p e s m args below meth c s₁ B hml hv
  obtain ⟨rfl, hKC⟩ := hv
  have hx := B.exec
  have hb := B.bytes
  have hr := B.returns
  have hts := atoms_spec (ws := wsX0_isNumber) B.pre
  have hown : s.vm.findClass RX0 = some m.cls := findClass_of_methodNamed B.named
  have hlocks := B.notSynchronized
  have hS : va_S (fun _ => False) s.heap s.heap [] := va_S.rf
  have hl := lv_entry ([.ref (ad i), .long x1]) (n := 3) (Nat.le_of_ble_eq_true rfl)
  rw [lg_entry_eq]
  generalize (lg_sl ([.ref (ad i), .long x1]) ++ List.replicate (3 - (lg_sl ([.ref (ad i), .long x1])).length) Slot.unset).toArray = ls at hl ⊢
  have hl : lv_has ls 3 [(0, .ref (ad i)), (1, .long x1)] := hl
  refine lv_aload_n hx hb dX0_isNumber_0 rfl (lv_at hl 0 rfl) ?_
  refine lv_lload_n hx hb dX0_isNumber_1 rfl (lv_at hl 1 rfl) ?_
  refine pc_V (i := i) (As := [.long x1]) (rest := []) (r := .long (fX0_sizeOf i x1)) ⟨hx, hb, hml, hown, hts⟩ (c_X0_sizeOf l ad i hi x1) (cwV 1 hts gX0_isNumber_X0_sizeOf rfl rfl rfl hd_X0_sizeOf ⟨Nat.le_of_ble_eq_true rfl, Nat.le_of_ble_eq_true rfl⟩) hKC hS hi rfl hl.1 rfl (lv_room (Nat.le_of_ble_eq_true rfl)) dX0_isNumber_2 ⟨Nat.zero_le _, Nat.zero_le _⟩ ?_
  refine lv_aload_n hx hb dX0_isNumber_5 rfl (lv_at hl 0 rfl) ?_
  refine pk_inf hx hb hKC hi hS hown (hts (.fieldLink RX0 48 "NeedleBoard$Kind" "infinity" "J") (by decide +kernel)) dX0_isNumber_6 ?_
  refine pl_gt (tgt := 17) hx hb dX0_isNumber_9 dX0_isNumber_10 (by decide) (fun c_1 => ?_) (fun c_1 => ?_)
  · refine lv_iconst (v := 0) hx hb dX0_isNumber_17 (by decide) ?_
    exact W.zret hx hb hr (by decide) (fun t ht _ => ⟨congrArg (fun z => Outcome.returned (some (Value.int z))) (by unfold fX0_isNumber; rw [if_pos c_1]), ht⟩) (fun _ h => nomatch h) dX0_isNumber_18
  · refine lv_iconst (v := 1) hx hb dX0_isNumber_13 (by decide) ?_
    refine lv_goto (tgt := 18) hx hb dX0_isNumber_14 (by decide) ?_
    exact W.zret hx hb hr (by decide) (fun t ht _ => ⟨congrArg (fun z => Outcome.returned (some (Value.int z))) (by unfold fX0_isNumber; rw [if_neg c_1]), ht⟩) (fun _ h => nomatch h) dX0_isNumber_18
def fX0_trimmed (i : Nat) (x1 : Int64) : Int64 :=
  if i = 1 then
    x1.toInt32.toInt64
  else
    x1
theorem hd_X0_trimmed : yX0_trimmed.cls = RX0 ∧ yX0_trimmed.cls ≠ "java/lang/invoke/MethodHandle" ∧ yX0_trimmed.cls ≠ "java/lang/invoke/VarHandle" ∧ (parseMethodDescriptor yX0_trimmed.desc).map (fun d => d.parameters.length) = some 1 := by decide +kernel
set_option maxHeartbeats 4000000 in
set_option maxRecDepth 100000 in
theorem c_X0_trimmed (l : Launch) (ad : Nat → Nat) (i : Nat) (hi : i < 2) (x1 : Int64) : Met l yX0_trimmed wsX0_trimmed ({ frames := 0, cells := 0, slots := 0, locals := 0 }) (PK ad [.ref (ad i), .long x1]) (k2_QcV (.long (fX0_trimmed i x1))) 0 0 (fun _ => False) := by
  refine Met.ofW (cc := cX0_trimmed) (maxL := 3) (ret := (some .long)) (by decide) rfl ?_
  intro p e s m args below meth c s₁ B hml hv
  obtain ⟨rfl, hKC⟩ := hv
  have hx := B.exec
  have hb := B.bytes
  have hr := B.returns
  have hts := atoms_spec (ws := wsX0_trimmed) B.pre
  have hown : s.vm.findClass RX0 = some m.cls := findClass_of_methodNamed B.named
  have hlocks := B.notSynchronized
  have hS : va_S (fun _ => False) s.heap s.heap [] := va_S.rf
  have hl := lv_entry ([.ref (ad i), .long x1]) (n := 3) (Nat.le_of_ble_eq_true rfl)
  rw [lg_entry_eq]
  generalize (lg_sl ([.ref (ad i), .long x1]) ++ List.replicate (3 - (lg_sl ([.ref (ad i), .long x1])).length) Slot.unset).toArray = ls at hl ⊢
  have hl : lv_has ls 3 [(0, .ref (ad i)), (1, .long x1)] := hl
  refine lv_aload_n hx hb dX0_trimmed_0 rfl (lv_at hl 0 rfl) ?_
  refine pk_coarse hx hb hKC hS hown (hts (.fieldLink RX0 7 "NeedleBoard$Kind" "COARSE" "LNeedleBoard$Kind;") (by decide +kernel)) dX0_trimmed_1 ?_
  refine pa_ne (tgt := 13) hx hb hKC hi (by decide) dX0_trimmed_4 (by decide) (fun c_1 => ?_) (fun c_1 => ?_)
  · refine lv_lload_n hx hb dX0_trimmed_13 rfl (lv_at hl 1 rfl) ?_
    exact W.lret hx hb hr (fun t ht _ => ⟨congrArg (fun z => Outcome.returned (some (Value.long z))) (by unfold fX0_trimmed; rw [if_neg c_1]), ht⟩) (fun _ h => nomatch h) dX0_trimmed_14
  · refine lv_lload_n hx hb dX0_trimmed_7 rfl (lv_at hl 1 rfl) ?_
    refine lv_l2i hx hb dX0_trimmed_8 rfl ?_
    refine lv_i2l hx hb dX0_trimmed_9 rfl ?_
    refine lv_goto (tgt := 14) hx hb dX0_trimmed_10 (by decide) ?_
    exact W.lret hx hb hr (fun t ht _ => ⟨congrArg (fun z => Outcome.returned (some (Value.long z))) (by unfold fX0_trimmed; rw [if_pos c_1]), ht⟩) (fun _ h => nomatch h) dX0_trimmed_14
def fX0_areAlike (i : Nat) (x1 : Int64) (x3 : Int64) : Int32 :=
  if x1 = x3 then
    (1 : Int32)
  else
    if (fX0_sizeOf i x1) = (0 : Int64) then
      if (fX0_sizeOf i x3) = (0 : Int64) then
        (1 : Int32)
      else
        (0 : Int32)
    else
      (0 : Int32)
theorem hd_X0_areAlike : yX0_areAlike.cls = RX0 ∧ yX0_areAlike.cls ≠ "java/lang/invoke/MethodHandle" ∧ yX0_areAlike.cls ≠ "java/lang/invoke/VarHandle" ∧ (parseMethodDescriptor yX0_areAlike.desc).map (fun d => d.parameters.length) = some 2 := by decide +kernel
set_option maxHeartbeats 4000000 in
set_option maxRecDepth 100000 in
theorem c_X0_areAlike (l : Launch) (ad : Nat → Nat) (i : Nat) (hi : i < 2) (x1 : Int64) (x3 : Int64) : Met l yX0_areAlike wsX0_areAlike ({ frames := 1, cells := 0, slots := 0, locals := 22 }) (PK ad [.ref (ad i), .long x1, .long x3]) (k2_QcV (.int (fX0_areAlike i x1 x3))) 0 0 (fun _ => False) := by
  refine Met.ofW (cc := cX0_areAlike) (maxL := 5) (ret := (some .boolean)) (by decide) rfl ?_
  intro p e s m args below meth c s₁ B hml hv
  obtain ⟨rfl, hKC⟩ := hv
  have hx := B.exec
  have hb := B.bytes
  have hr := B.returns
  have hts := atoms_spec (ws := wsX0_areAlike) B.pre
  have hown : s.vm.findClass RX0 = some m.cls := findClass_of_methodNamed B.named
  have hlocks := B.notSynchronized
  have hS : va_S (fun _ => False) s.heap s.heap [] := va_S.rf
  have hl := lv_entry ([.ref (ad i), .long x1, .long x3]) (n := 5) (Nat.le_of_ble_eq_true rfl)
  rw [lg_entry_eq]
  generalize (lg_sl ([.ref (ad i), .long x1, .long x3]) ++ List.replicate (5 - (lg_sl ([.ref (ad i), .long x1, .long x3])).length) Slot.unset).toArray = ls at hl ⊢
  have hl : lv_has ls 5 [(0, .ref (ad i)), (1, .long x1), (3, .long x3)] := hl
  refine lv_lload_n hx hb dX0_areAlike_0 rfl (lv_at hl 1 rfl) ?_
  refine lv_lload_n hx hb dX0_areAlike_1 rfl (lv_at hl 2 rfl) ?_
  refine pl_eq (tgt := 26) hx hb dX0_areAlike_2 dX0_areAlike_3 (by decide) (fun c_1 => ?_) (fun c_1 => ?_)
  · refine lv_iconst (v := 1) hx hb dX0_areAlike_26 (by decide) ?_
    refine lv_goto (tgt := 31) hx hb dX0_areAlike_27 (by decide) ?_
    exact W.zret hx hb hr (by decide) (fun t ht _ => ⟨congrArg (fun z => Outcome.returned (some (Value.int z))) (by unfold fX0_areAlike; rw [if_pos c_1]), ht⟩) (fun _ h => nomatch h) dX0_areAlike_31
  · refine lv_aload_n hx hb dX0_areAlike_6 rfl (lv_at hl 0 rfl) ?_
    refine lv_lload_n hx hb dX0_areAlike_7 rfl (lv_at hl 1 rfl) ?_
    refine pc_V (i := i) (As := [.long x1]) (rest := []) (r := .long (fX0_sizeOf i x1)) ⟨hx, hb, hml, hown, hts⟩ (c_X0_sizeOf l ad i hi x1) (cwV 1 hts gX0_areAlike_X0_sizeOf rfl rfl rfl hd_X0_sizeOf ⟨Nat.le_of_ble_eq_true rfl, Nat.le_of_ble_eq_true rfl⟩) hKC hS hi rfl hl.1 rfl (lv_room (Nat.le_of_ble_eq_true rfl)) dX0_areAlike_8 ⟨Nat.zero_le _, Nat.zero_le _⟩ ?_
    refine lv_lconst (v := 0) hx hb dX0_areAlike_11 (by decide) ?_
    refine pl_ne (tgt := 30) hx hb dX0_areAlike_12 dX0_areAlike_13 (by decide) (fun c_2 => ?_) (fun c_2 => ?_)
    · refine lv_iconst (v := 0) hx hb dX0_areAlike_30 (by decide) ?_
      exact W.zret hx hb hr (by decide) (fun t ht _ => ⟨congrArg (fun z => Outcome.returned (some (Value.int z))) (by unfold fX0_areAlike; rw [if_neg c_1, if_neg c_2]), ht⟩) (fun _ h => nomatch h) dX0_areAlike_31
    · refine lv_aload_n hx hb dX0_areAlike_16 rfl (lv_at hl 0 rfl) ?_
      refine lv_lload_n hx hb dX0_areAlike_17 rfl (lv_at hl 2 rfl) ?_
      refine pc_V (i := i) (As := [.long x3]) (rest := []) (r := .long (fX0_sizeOf i x3)) ⟨hx, hb, hml, hown, hts⟩ (c_X0_sizeOf l ad i hi x3) (cwV 1 hts gX0_areAlike_X0_sizeOf rfl rfl rfl hd_X0_sizeOf ⟨Nat.le_of_ble_eq_true rfl, Nat.le_of_ble_eq_true rfl⟩) hKC hS hi rfl hl.1 rfl (lv_room (Nat.le_of_ble_eq_true rfl)) dX0_areAlike_18 ⟨Nat.zero_le _, Nat.zero_le _⟩ ?_
      refine lv_lconst (v := 0) hx hb dX0_areAlike_21 (by decide) ?_
      refine pl_ne (tgt := 30) hx hb dX0_areAlike_22 dX0_areAlike_23 (by decide) (fun c_3 => ?_) (fun c_3 => ?_)
      · refine lv_iconst (v := 0) hx hb dX0_areAlike_30 (by decide) ?_
        exact W.zret hx hb hr (by decide) (fun t ht _ => ⟨congrArg (fun z => Outcome.returned (some (Value.int z))) (by unfold fX0_areAlike; rw [if_neg c_1, if_pos c_2, if_neg c_3]), ht⟩) (fun _ h => nomatch h) dX0_areAlike_31
      · refine lv_iconst (v := 1) hx hb dX0_areAlike_26 (by decide) ?_
        refine lv_goto (tgt := 31) hx hb dX0_areAlike_27 (by decide) ?_
        exact W.zret hx hb hr (by decide) (fun t ht _ => ⟨congrArg (fun z => Outcome.returned (some (Value.int z))) (by unfold fX0_areAlike; rw [if_neg c_1, if_pos c_2, if_pos c_3]), ht⟩) (fun _ h => nomatch h) dX0_areAlike_31
def fX0_areOppositeInfinities (i : Nat) (x1 : Int64) (x3 : Int64) : Int32 :=
  if (fX0_sizeOf i x1) = (kInf i) then
    if x3 = (fX0_negated i x1) then
      (1 : Int32)
    else
      (0 : Int32)
  else
    (0 : Int32)
theorem hd_X0_areOppositeInfinities : yX0_areOppositeInfinities.cls = RX0 ∧ yX0_areOppositeInfinities.cls ≠ "java/lang/invoke/MethodHandle" ∧ yX0_areOppositeInfinities.cls ≠ "java/lang/invoke/VarHandle" ∧ (parseMethodDescriptor yX0_areOppositeInfinities.desc).map (fun d => d.parameters.length) = some 2 := by decide +kernel
set_option maxHeartbeats 4000000 in
set_option maxRecDepth 100000 in
theorem c_X0_areOppositeInfinities (l : Launch) (ad : Nat → Nat) (i : Nat) (hi : i < 2) (x1 : Int64) (x3 : Int64) : Met l yX0_areOppositeInfinities wsX0_areOppositeInfinities ({ frames := 2, cells := 0, slots := 0, locals := 44 }) (PK ad [.ref (ad i), .long x1, .long x3]) (k2_QcV (.int (fX0_areOppositeInfinities i x1 x3))) 0 0 (fun _ => False) := by
  refine Met.ofW (cc := cX0_areOppositeInfinities) (maxL := 5) (ret := (some .boolean)) (by decide) rfl ?_
  intro p e s m args below meth c s₁ B hml hv
  obtain ⟨rfl, hKC⟩ := hv
  have hx := B.exec
  have hb := B.bytes
  have hr := B.returns
  have hts := atoms_spec (ws := wsX0_areOppositeInfinities) B.pre
  have hown : s.vm.findClass RX0 = some m.cls := findClass_of_methodNamed B.named
  have hlocks := B.notSynchronized
  have hS : va_S (fun _ => False) s.heap s.heap [] := va_S.rf
  have hl := lv_entry ([.ref (ad i), .long x1, .long x3]) (n := 5) (Nat.le_of_ble_eq_true rfl)
  rw [lg_entry_eq]
  generalize (lg_sl ([.ref (ad i), .long x1, .long x3]) ++ List.replicate (5 - (lg_sl ([.ref (ad i), .long x1, .long x3])).length) Slot.unset).toArray = ls at hl ⊢
  have hl : lv_has ls 5 [(0, .ref (ad i)), (1, .long x1), (3, .long x3)] := hl
  refine lv_aload_n hx hb dX0_areOppositeInfinities_0 rfl (lv_at hl 0 rfl) ?_
  refine lv_lload_n hx hb dX0_areOppositeInfinities_1 rfl (lv_at hl 1 rfl) ?_
  refine pc_V (i := i) (As := [.long x1]) (rest := []) (r := .long (fX0_sizeOf i x1)) ⟨hx, hb, hml, hown, hts⟩ (c_X0_sizeOf l ad i hi x1) (cwV 1 hts gX0_areOppositeInfinities_X0_sizeOf rfl rfl rfl hd_X0_sizeOf ⟨Nat.le_of_ble_eq_true rfl, Nat.le_of_ble_eq_true rfl⟩) hKC hS hi rfl hl.1 rfl (lv_room (Nat.le_of_ble_eq_true rfl)) dX0_areOppositeInfinities_2 ⟨Nat.zero_le _, Nat.zero_le _⟩ ?_
  refine lv_aload_n hx hb dX0_areOppositeInfinities_5 rfl (lv_at hl 0 rfl) ?_
  refine pk_inf hx hb hKC hi hS hown (hts (.fieldLink RX0 48 "NeedleBoard$Kind" "infinity" "J") (by decide +kernel)) dX0_areOppositeInfinities_6 ?_
  refine pl_ne (tgt := 27) hx hb dX0_areOppositeInfinities_9 dX0_areOppositeInfinities_10 (by decide) (fun c_1 => ?_) (fun c_1 => ?_)
  · refine lv_iconst (v := 0) hx hb dX0_areOppositeInfinities_27 (by decide) ?_
    exact W.zret hx hb hr (by decide) (fun t ht _ => ⟨congrArg (fun z => Outcome.returned (some (Value.int z))) (by unfold fX0_areOppositeInfinities; rw [if_neg c_1]), ht⟩) (fun _ h => nomatch h) dX0_areOppositeInfinities_28
  · refine lv_lload_n hx hb dX0_areOppositeInfinities_13 rfl (lv_at hl 2 rfl) ?_
    refine lv_aload_n hx hb dX0_areOppositeInfinities_14 rfl (lv_at hl 0 rfl) ?_
    refine lv_lload_n hx hb dX0_areOppositeInfinities_15 rfl (lv_at hl 1 rfl) ?_
    refine pc_V (i := i) (As := [.long x1]) (rest := [.long x3]) (r := .long (fX0_negated i x1)) ⟨hx, hb, hml, hown, hts⟩ (c_X0_negated l ad i hi x1) (cwV 1 hts gX0_areOppositeInfinities_X0_negated rfl rfl rfl hd_X0_negated ⟨Nat.le_of_ble_eq_true rfl, Nat.le_of_ble_eq_true rfl⟩) hKC hS hi rfl hl.1 rfl (lv_room (Nat.le_of_ble_eq_true rfl)) dX0_areOppositeInfinities_16 ⟨Nat.zero_le _, Nat.zero_le _⟩ ?_
    refine pl_ne (tgt := 27) hx hb dX0_areOppositeInfinities_19 dX0_areOppositeInfinities_20 (by decide) (fun c_2 => ?_) (fun c_2 => ?_)
    · refine lv_iconst (v := 0) hx hb dX0_areOppositeInfinities_27 (by decide) ?_
      exact W.zret hx hb hr (by decide) (fun t ht _ => ⟨congrArg (fun z => Outcome.returned (some (Value.int z))) (by unfold fX0_areOppositeInfinities; rw [if_pos c_1, if_neg c_2]), ht⟩) (fun _ h => nomatch h) dX0_areOppositeInfinities_28
    · refine lv_iconst (v := 1) hx hb dX0_areOppositeInfinities_23 (by decide) ?_
      refine lv_goto (tgt := 28) hx hb dX0_areOppositeInfinities_24 (by decide) ?_
      exact W.zret hx hb hr (by decide) (fun t ht _ => ⟨congrArg (fun z => Outcome.returned (some (Value.int z))) (by unfold fX0_areOppositeInfinities; rw [if_pos c_1, if_pos c_2]), ht⟩) (fun _ h => nomatch h) dX0_areOppositeInfinities_28
def fX0_exponentOf (i : Nat) (x1 : Int64) : Int32 :=
  if (1 : Int32) < (x1 >>> ((kFrac i).toInt64 &&& 63)).toInt32 then (x1 >>> ((kFrac i).toInt64 &&& 63)).toInt32 else (1 : Int32)
theorem hd_X0_exponentOf : yX0_exponentOf.cls = RX0 ∧ yX0_exponentOf.cls ≠ "java/lang/invoke/MethodHandle" ∧ yX0_exponentOf.cls ≠ "java/lang/invoke/VarHandle" ∧ (parseMethodDescriptor yX0_exponentOf.desc).map (fun d => d.parameters.length) = some 1 := by decide +kernel
set_option maxHeartbeats 4000000 in
set_option maxRecDepth 100000 in
theorem c_X0_exponentOf (l : Launch) (ad : Nat → Nat) (i : Nat) (hi : i < 2) (x1 : Int64) : Met l yX0_exponentOf wsX0_exponentOf ({ frames := 1, cells := 0, slots := 0, locals := 13 }) (PK ad [.ref (ad i), .long x1]) (k2_QcV (.int (fX0_exponentOf i x1))) 0 0 (fun _ => False) := by
  refine Met.ofW (cc := cX0_exponentOf) (maxL := 3) (ret := (some .int)) (by decide) rfl ?_
  intro p e s m args below meth c s₁ B hml hv
  obtain ⟨rfl, hKC⟩ := hv
  have hx := B.exec
  have hb := B.bytes
  have hr := B.returns
  have hts := atoms_spec (ws := wsX0_exponentOf) B.pre
  have hown : s.vm.findClass RX0 = some m.cls := findClass_of_methodNamed B.named
  have hlocks := B.notSynchronized
  have hS : va_S (fun _ => False) s.heap s.heap [] := va_S.rf
  have hl := lv_entry ([.ref (ad i), .long x1]) (n := 3) (Nat.le_of_ble_eq_true rfl)
  rw [lg_entry_eq]
  generalize (lg_sl ([.ref (ad i), .long x1]) ++ List.replicate (3 - (lg_sl ([.ref (ad i), .long x1])).length) Slot.unset).toArray = ls at hl ⊢
  have hl : lv_has ls 3 [(0, .ref (ad i)), (1, .long x1)] := hl
  refine lv_iconst (v := 1) hx hb dX0_exponentOf_0 (by decide) ?_
  refine lv_lload_n hx hb dX0_exponentOf_1 rfl (lv_at hl 1 rfl) ?_
  refine lv_aload_n hx hb dX0_exponentOf_2 rfl (lv_at hl 0 rfl) ?_
  refine pk_frac hx hb hKC hi hS hown (hts (.fieldLink RX0 29 "NeedleBoard$Kind" "fractionBits" "I") (by decide +kernel)) dX0_exponentOf_3 ?_
  refine lv_lshr hx hb dX0_exponentOf_6 rfl ?_
  refine lv_l2i hx hb dX0_exponentOf_7 rfl ?_
  refine va_mmax hx hb (hml.trans hl.1.symm) hown (hts (.methodLink RX0 92 Lib.Math.max.name) (by decide +kernel)) (hts (.static Lib.Math.max.name) (by decide +kernel)) (hts (.initialized "java/lang/Math") (by decide +kernel)) (hts (.code Lib.Math.max.name Lib.Math.max.code 2 (some .int)) (by decide +kernel)) (Nat.le_of_ble_eq_true rfl) (Nat.le_of_ble_eq_true rfl) (Nat.zero_le _) (Nat.zero_le _) dX0_exponentOf_8 ?_
  exact W.iret hx hb hr (fun t ht _ => ⟨congrArg (fun z => Outcome.returned (some (Value.int z))) rfl, ht⟩) (fun _ h => nomatch h) dX0_exponentOf_11
def fX0_significandOf (i : Nat) (x1 : Int64) : Int64 :=
  if (kHid i) ≤ x1 then
    (x1 &&& ((kHid i) - (1 : Int64))) ||| (kHid i)
  else
    x1 &&& ((kHid i) - (1 : Int64))
theorem hd_X0_significandOf : yX0_significandOf.cls = RX0 ∧ yX0_significandOf.cls ≠ "java/lang/invoke/MethodHandle" ∧ yX0_significandOf.cls ≠ "java/lang/invoke/VarHandle" ∧ (parseMethodDescriptor yX0_significandOf.desc).map (fun d => d.parameters.length) = some 1 := by decide +kernel
set_option maxHeartbeats 4000000 in
set_option maxRecDepth 100000 in
theorem c_X0_significandOf (l : Launch) (ad : Nat → Nat) (i : Nat) (hi : i < 2) (x1 : Int64) : Met l yX0_significandOf wsX0_significandOf ({ frames := 0, cells := 0, slots := 0, locals := 0 }) (PK ad [.ref (ad i), .long x1]) (k2_QcV (.long (fX0_significandOf i x1))) 0 0 (fun _ => False) := by
  refine Met.ofW (cc := cX0_significandOf) (maxL := 5) (ret := (some .long)) (by decide) rfl ?_
  intro p e s m args below meth c s₁ B hml hv
  obtain ⟨rfl, hKC⟩ := hv
  have hx := B.exec
  have hb := B.bytes
  have hr := B.returns
  have hts := atoms_spec (ws := wsX0_significandOf) B.pre
  have hown : s.vm.findClass RX0 = some m.cls := findClass_of_methodNamed B.named
  have hlocks := B.notSynchronized
  have hS : va_S (fun _ => False) s.heap s.heap [] := va_S.rf
  have hl := lv_entry ([.ref (ad i), .long x1]) (n := 5) (Nat.le_of_ble_eq_true rfl)
  rw [lg_entry_eq]
  generalize (lg_sl ([.ref (ad i), .long x1]) ++ List.replicate (5 - (lg_sl ([.ref (ad i), .long x1])).length) Slot.unset).toArray = ls at hl ⊢
  have hl : lv_has ls 5 [(0, .ref (ad i)), (1, .long x1)] := hl
  refine lv_lload_n hx hb dX0_significandOf_0 rfl (lv_at hl 1 rfl) ?_
  refine lv_aload_n hx hb dX0_significandOf_1 rfl (lv_at hl 0 rfl) ?_
  refine pk_hid hx hb hKC hi hS hown (hts (.fieldLink RX0 40 "NeedleBoard$Kind" "hiddenBit" "J") (by decide +kernel)) dX0_significandOf_2 ?_
  refine lv_lconst (v := 1) hx hb dX0_significandOf_5 (by decide) ?_
  refine lv_lsub hx hb dX0_significandOf_6 ?_
  refine lv_land hx hb dX0_significandOf_7 ?_
  refine lv_lstore_n (lv' := [(3, .long (x1 &&& ((kHid i) - (1 : Int64)))), (0, .ref (ad i)), (1, .long x1)]) hx hb dX0_significandOf_8 rfl hl (by decide) rfl (fun ls hl => ?_)
  refine lv_lload_n hx hb dX0_significandOf_9 rfl (lv_at hl 2 rfl) ?_
  refine lv_aload_n hx hb dX0_significandOf_10 rfl (lv_at hl 1 rfl) ?_
  refine pk_hid hx hb hKC hi hS hown (hts (.fieldLink RX0 40 "NeedleBoard$Kind" "hiddenBit" "J") (by decide +kernel)) dX0_significandOf_11 ?_
  refine pl_ge (tgt := 22) hx hb dX0_significandOf_14 dX0_significandOf_15 (by decide) (fun c_1 => ?_) (fun c_1 => ?_)
  · refine lv_lload_n hx hb dX0_significandOf_22 rfl (lv_at hl 0 rfl) ?_
    refine lv_aload_n hx hb dX0_significandOf_23 rfl (lv_at hl 1 rfl) ?_
    refine pk_hid hx hb hKC hi hS hown (hts (.fieldLink RX0 40 "NeedleBoard$Kind" "hiddenBit" "J") (by decide +kernel)) dX0_significandOf_24 ?_
    refine lv_lor hx hb dX0_significandOf_27 ?_
    exact W.lret hx hb hr (fun t ht _ => ⟨congrArg (fun z => Outcome.returned (some (Value.long z))) (by unfold fX0_significandOf; rw [if_pos c_1]), ht⟩) (fun _ h => nomatch h) dX0_significandOf_28
  · refine lv_lload_n hx hb dX0_significandOf_18 rfl (lv_at hl 0 rfl) ?_
    refine lv_goto (tgt := 28) hx hb dX0_significandOf_19 (by decide) ?_
    exact W.lret hx hb hr (fun t ht _ => ⟨congrArg (fun z => Outcome.returned (some (Value.long z))) (by unfold fX0_significandOf; rw [if_neg c_1]), ht⟩) (fun _ h => nomatch h) dX0_significandOf_28
def fX0_shiftedDown (x0 : Int64) (x2 : Int32) : Int64 :=
  if x2 < (64 : Int32) then
    if ((x0 >>> (x2.toInt64 &&& 63)) <<< (x2.toInt64 &&& 63)) = x0 then
      x0 >>> (x2.toInt64 &&& 63)
    else
      (x0 >>> (x2.toInt64 &&& 63)) ||| (1 : Int64)
  else
    if x0 = (0 : Int64) then
      (0 : Int64)
    else
      (1 : Int64)
theorem hd_X0_shiftedDown : yX0_shiftedDown.cls ≠ "java/lang/invoke/MethodHandle" ∧ yX0_shiftedDown.cls ≠ "java/lang/invoke/VarHandle" ∧ (parseMethodDescriptor yX0_shiftedDown.desc).map (fun d => d.parameters.length) = some 2 := by decide +kernel
set_option maxHeartbeats 4000000 in
set_option maxRecDepth 100000 in
theorem c_X0_shiftedDown (l : Launch) (x0 : Int64) (x2 : Int32) : Met l yX0_shiftedDown wsX0_shiftedDown ({ frames := 0, cells := 0, slots := 0, locals := 0 }) (P0 [.long x0, .int x2]) (k2_QcV (.long (fX0_shiftedDown x0 x2))) 0 0 (fun _ => False) := by
  refine Met.ofW (cc := cX0_shiftedDown) (maxL := 5) (ret := (some .long)) (by decide) rfl ?_
  intro p e s m args below meth c s₁ B hml hv
  have hv2 : args = _ := hv
  subst hv2
  have hx := B.exec
  have hb := B.bytes
  have hr := B.returns
  have hts := atoms_spec (ws := wsX0_shiftedDown) B.pre
  have hown : s.vm.findClass RX0 = some m.cls := findClass_of_methodNamed B.named
  have hlocks := B.notSynchronized
  have hl := lv_entry ([.long x0, .int x2]) (n := 5) (Nat.le_of_ble_eq_true rfl)
  rw [lg_entry_eq]
  generalize (lg_sl ([.long x0, .int x2]) ++ List.replicate (5 - (lg_sl ([.long x0, .int x2])).length) Slot.unset).toArray = ls at hl ⊢
  have hl : lv_has ls 5 [(0, .long x0), (2, .int x2)] := hl
  refine lv_iload_n hx hb dX0_shiftedDown_0 rfl (lv_at hl 1 rfl) ?_
  refine lv_bipush (v := (64)) hx hb dX0_shiftedDown_1 (by decide) ?_
  refine lv_icmp_lt (tgt := 18) hx hb dX0_shiftedDown_3 (by decide) (fun c_1 => ?_) (fun c_1 => ?_)
  · refine lv_lload_n hx hb dX0_shiftedDown_18 rfl (lv_at hl 0 rfl) ?_
    refine lv_iload_n hx hb dX0_shiftedDown_19 rfl (lv_at hl 1 rfl) ?_
    refine lv_lshr hx hb dX0_shiftedDown_20 rfl ?_
    refine lv_lstore_n (lv' := [(3, .long (x0 >>> (x2.toInt64 &&& 63))), (0, .long x0), (2, .int x2)]) hx hb dX0_shiftedDown_21 rfl hl (by decide) rfl (fun ls hl => ?_)
    refine lv_lload_n hx hb dX0_shiftedDown_22 rfl (lv_at hl 0 rfl) ?_
    refine lv_iload_n hx hb dX0_shiftedDown_23 rfl (lv_at hl 2 rfl) ?_
    refine lv_lshl hx hb dX0_shiftedDown_24 rfl ?_
    refine lv_lload_n hx hb dX0_shiftedDown_25 rfl (lv_at hl 1 rfl) ?_
    refine pl_ne (tgt := 34) hx hb dX0_shiftedDown_26 dX0_shiftedDown_27 (by decide) (fun c_2 => ?_) (fun c_2 => ?_)
    · refine lv_lload_n hx hb dX0_shiftedDown_34 rfl (lv_at hl 0 rfl) ?_
      refine lv_lconst (v := 1) hx hb dX0_shiftedDown_35 (by decide) ?_
      refine lv_lor hx hb dX0_shiftedDown_36 ?_
      exact W.lret hx hb hr (fun t ht _ => ⟨congrArg (fun z => Outcome.returned (some (Value.long z))) (by unfold fX0_shiftedDown; rw [if_pos c_1, if_neg c_2]), ht⟩) (fun _ h => nomatch h) dX0_shiftedDown_37
    · refine lv_lload_n hx hb dX0_shiftedDown_30 rfl (lv_at hl 0 rfl) ?_
      refine lv_goto (tgt := 37) hx hb dX0_shiftedDown_31 (by decide) ?_
      exact W.lret hx hb hr (fun t ht _ => ⟨congrArg (fun z => Outcome.returned (some (Value.long z))) (by unfold fX0_shiftedDown; rw [if_pos c_1, if_pos c_2]), ht⟩) (fun _ h => nomatch h) dX0_shiftedDown_37
  · refine lv_lload_n hx hb dX0_shiftedDown_6 rfl (lv_at hl 0 rfl) ?_
    refine lv_lconst (v := 0) hx hb dX0_shiftedDown_7 (by decide) ?_
    refine pl_ne (tgt := 16) hx hb dX0_shiftedDown_8 dX0_shiftedDown_9 (by decide) (fun c_3 => ?_) (fun c_3 => ?_)
    · refine lv_lconst (v := 1) hx hb dX0_shiftedDown_16 (by decide) ?_
      exact W.lret hx hb hr (fun t ht _ => ⟨congrArg (fun z => Outcome.returned (some (Value.long z))) (by unfold fX0_shiftedDown; rw [if_neg c_1, if_neg c_3]), ht⟩) (fun _ h => nomatch h) dX0_shiftedDown_17
    · refine lv_lconst (v := 0) hx hb dX0_shiftedDown_12 (by decide) ?_
      refine lv_goto (tgt := 17) hx hb dX0_shiftedDown_13 (by decide) ?_
      exact W.lret hx hb hr (fun t ht _ => ⟨congrArg (fun z => Outcome.returned (some (Value.long z))) (by unfold fX0_shiftedDown; rw [if_neg c_1, if_pos c_3]), ht⟩) (fun _ h => nomatch h) dX0_shiftedDown_17
def fX0_isRoundedUp (x0 : Int64) (x2 : Int64) (x4 : Int64) : Int32 :=
  if x2 < x0 then
    (1 : Int32)
  else
    if x0 = x2 then
      if (x4 &&& (1 : Int64)) = (1 : Int64) then
        (1 : Int32)
      else
        (0 : Int32)
    else
      (0 : Int32)
theorem hd_X0_isRoundedUp : yX0_isRoundedUp.cls ≠ "java/lang/invoke/MethodHandle" ∧ yX0_isRoundedUp.cls ≠ "java/lang/invoke/VarHandle" ∧ (parseMethodDescriptor yX0_isRoundedUp.desc).map (fun d => d.parameters.length) = some 3 := by decide +kernel
set_option maxHeartbeats 4000000 in
set_option maxRecDepth 100000 in
theorem c_X0_isRoundedUp (l : Launch) (x0 : Int64) (x2 : Int64) (x4 : Int64) : Met l yX0_isRoundedUp wsX0_isRoundedUp ({ frames := 0, cells := 0, slots := 0, locals := 0 }) (P0 [.long x0, .long x2, .long x4]) (k2_QcV (.int (fX0_isRoundedUp x0 x2 x4))) 0 0 (fun _ => False) := by
  refine Met.ofW (cc := cX0_isRoundedUp) (maxL := 6) (ret := (some .boolean)) (by decide) rfl ?_
  intro p e s m args below meth c s₁ B hml hv
  have hv2 : args = _ := hv
  subst hv2
  have hx := B.exec
  have hb := B.bytes
  have hr := B.returns
  have hts := atoms_spec (ws := wsX0_isRoundedUp) B.pre
  have hown : s.vm.findClass RX0 = some m.cls := findClass_of_methodNamed B.named
  have hlocks := B.notSynchronized
  have hl := lv_entry ([.long x0, .long x2, .long x4]) (n := 6) (Nat.le_of_ble_eq_true rfl)
  rw [lg_entry_eq]
  generalize (lg_sl ([.long x0, .long x2, .long x4]) ++ List.replicate (6 - (lg_sl ([.long x0, .long x2, .long x4])).length) Slot.unset).toArray = ls at hl ⊢
  have hl : lv_has ls 6 [(0, .long x0), (2, .long x2), (4, .long x4)] := hl
  refine lv_lload_n hx hb dX0_isRoundedUp_0 rfl (lv_at hl 0 rfl) ?_
  refine lv_lload_n hx hb dX0_isRoundedUp_1 rfl (lv_at hl 1 rfl) ?_
  refine pl_gt (tgt := 21) hx hb dX0_isRoundedUp_2 dX0_isRoundedUp_3 (by decide) (fun c_1 => ?_) (fun c_1 => ?_)
  · refine lv_iconst (v := 1) hx hb dX0_isRoundedUp_21 (by decide) ?_
    refine lv_goto (tgt := 26) hx hb dX0_isRoundedUp_22 (by decide) ?_
    exact W.zret hx hb hr (by decide) (fun t ht _ => ⟨congrArg (fun z => Outcome.returned (some (Value.int z))) (by unfold fX0_isRoundedUp; rw [if_pos c_1]), ht⟩) (fun _ h => nomatch h) dX0_isRoundedUp_26
  · refine lv_lload_n hx hb dX0_isRoundedUp_6 rfl (lv_at hl 0 rfl) ?_
    refine lv_lload_n hx hb dX0_isRoundedUp_7 rfl (lv_at hl 1 rfl) ?_
    refine pl_ne (tgt := 25) hx hb dX0_isRoundedUp_8 dX0_isRoundedUp_9 (by decide) (fun c_2 => ?_) (fun c_2 => ?_)
    · refine lv_iconst (v := 0) hx hb dX0_isRoundedUp_25 (by decide) ?_
      exact W.zret hx hb hr (by decide) (fun t ht _ => ⟨congrArg (fun z => Outcome.returned (some (Value.int z))) (by unfold fX0_isRoundedUp; rw [if_neg c_1, if_neg c_2]), ht⟩) (fun _ h => nomatch h) dX0_isRoundedUp_26
    · refine lv_lload hx hb dX0_isRoundedUp_12 (lv_at hl 2 rfl) ?_
      refine lv_lconst (v := 1) hx hb dX0_isRoundedUp_14 (by decide) ?_
      refine lv_land hx hb dX0_isRoundedUp_15 ?_
      refine lv_lconst (v := 1) hx hb dX0_isRoundedUp_16 (by decide) ?_
      refine pl_ne (tgt := 25) hx hb dX0_isRoundedUp_17 dX0_isRoundedUp_18 (by decide) (fun c_3 => ?_) (fun c_3 => ?_)
      · refine lv_iconst (v := 0) hx hb dX0_isRoundedUp_25 (by decide) ?_
        exact W.zret hx hb hr (by decide) (fun t ht _ => ⟨congrArg (fun z => Outcome.returned (some (Value.int z))) (by unfold fX0_isRoundedUp; rw [if_neg c_1, if_pos c_2, if_neg c_3]), ht⟩) (fun _ h => nomatch h) dX0_isRoundedUp_26
      · refine lv_iconst (v := 1) hx hb dX0_isRoundedUp_21 (by decide) ?_
        refine lv_goto (tgt := 26) hx hb dX0_isRoundedUp_22 (by decide) ?_
        exact W.zret hx hb hr (by decide) (fun t ht _ => ⟨congrArg (fun z => Outcome.returned (some (Value.int z))) (by unfold fX0_isRoundedUp; rw [if_neg c_1, if_pos c_2, if_pos c_3]), ht⟩) (fun _ h => nomatch h) dX0_isRoundedUp_26
def fX0_growsBy (x0 : Int32) (x1 : Int64) : Int32 :=
  if x0 = (1 : Int32) then
    if x1 < (0 : Int64) then
      (0 : Int32)
    else
      (1 : Int32)
  else
    if (0 : Int64) ≤ x1 then
      (0 : Int32)
    else
      (1 : Int32)
theorem hd_X0_growsBy : yX0_growsBy.cls ≠ "java/lang/invoke/MethodHandle" ∧ yX0_growsBy.cls ≠ "java/lang/invoke/VarHandle" ∧ (parseMethodDescriptor yX0_growsBy.desc).map (fun d => d.parameters.length) = some 2 := by decide +kernel
set_option maxHeartbeats 4000000 in
set_option maxRecDepth 100000 in
theorem c_X0_growsBy (l : Launch) (x0 : Int32) (x1 : Int64) : Met l yX0_growsBy wsX0_growsBy ({ frames := 0, cells := 0, slots := 0, locals := 0 }) (P0 [.int x0, .long x1]) (k2_QcV (.int (fX0_growsBy x0 x1))) 0 0 (fun _ => False) := by
  refine Met.ofW (cc := cX0_growsBy) (maxL := 3) (ret := (some .boolean)) (by decide) rfl ?_
  intro p e s m args below meth c s₁ B hml hv
  have hv2 : args = _ := hv
  subst hv2
  have hx := B.exec
  have hb := B.bytes
  have hr := B.returns
  have hts := atoms_spec (ws := wsX0_growsBy) B.pre
  have hown : s.vm.findClass RX0 = some m.cls := findClass_of_methodNamed B.named
  have hlocks := B.notSynchronized
  have hl := lv_entry ([.int x0, .long x1]) (n := 3) (Nat.le_of_ble_eq_true rfl)
  rw [lg_entry_eq]
  generalize (lg_sl ([.int x0, .long x1]) ++ List.replicate (3 - (lg_sl ([.int x0, .long x1])).length) Slot.unset).toArray = ls at hl ⊢
  have hl : lv_has ls 3 [(0, .int x0), (1, .long x1)] := hl
  refine lv_iload_n hx hb dX0_growsBy_0 rfl (lv_at hl 0 rfl) ?_
  refine lv_iconst (v := 1) hx hb dX0_growsBy_1 (by decide) ?_
  refine lv_icmp_ne (tgt := 19) hx hb dX0_growsBy_2 (by decide) (fun c_1 => ?_) (fun c_1 => ?_)
  · refine lv_lload_n hx hb dX0_growsBy_19 rfl (lv_at hl 1 rfl) ?_
    refine lv_lconst (v := 0) hx hb dX0_growsBy_20 (by decide) ?_
    refine pl_ge (tgt := 29) hx hb dX0_growsBy_21 dX0_growsBy_22 (by decide) (fun c_2 => ?_) (fun c_2 => ?_)
    · refine lv_iconst (v := 0) hx hb dX0_growsBy_29 (by decide) ?_
      exact W.zret hx hb hr (by decide) (fun t ht _ => ⟨congrArg (fun z => Outcome.returned (some (Value.int z))) (by unfold fX0_growsBy; rw [if_neg c_1, if_pos c_2]), ht⟩) (fun _ h => nomatch h) dX0_growsBy_30
    · refine lv_iconst (v := 1) hx hb dX0_growsBy_25 (by decide) ?_
      refine lv_goto (tgt := 30) hx hb dX0_growsBy_26 (by decide) ?_
      exact W.zret hx hb hr (by decide) (fun t ht _ => ⟨congrArg (fun z => Outcome.returned (some (Value.int z))) (by unfold fX0_growsBy; rw [if_neg c_1, if_neg c_2]), ht⟩) (fun _ h => nomatch h) dX0_growsBy_30
  · refine lv_lload_n hx hb dX0_growsBy_5 rfl (lv_at hl 1 rfl) ?_
    refine lv_lconst (v := 0) hx hb dX0_growsBy_6 (by decide) ?_
    refine pl_lt (tgt := 15) hx hb dX0_growsBy_7 dX0_growsBy_8 (by decide) (fun c_3 => ?_) (fun c_3 => ?_)
    · refine lv_iconst (v := 0) hx hb dX0_growsBy_15 (by decide) ?_
      refine lv_goto (tgt := 30) hx hb dX0_growsBy_16 (by decide) ?_
      exact W.zret hx hb hr (by decide) (fun t ht _ => ⟨congrArg (fun z => Outcome.returned (some (Value.int z))) (by unfold fX0_growsBy; rw [if_pos c_1, if_pos c_3]), ht⟩) (fun _ h => nomatch h) dX0_growsBy_30
    · refine lv_iconst (v := 1) hx hb dX0_growsBy_11 (by decide) ?_
      refine lv_goto (tgt := 30) hx hb dX0_growsBy_12 (by decide) ?_
      exact W.zret hx hb hr (by decide) (fun t ht _ => ⟨congrArg (fun z => Outcome.returned (some (Value.int z))) (by unfold fX0_growsBy; rw [if_pos c_1, if_neg c_3]), ht⟩) (fun _ h => nomatch h) dX0_growsBy_30
