def fX0_roundedOff (x0 : Int64) : Int64 :=
  if (fX0_isRoundedUp (x0 &&& (7 : Int64)) (4 : Int64) (x0 >>> ((3 : Int32).toInt64 &&& 63))) = 0 then
    x0 >>> ((3 : Int32).toInt64 &&& 63)
  else
    (x0 >>> ((3 : Int32).toInt64 &&& 63)) + (1 : Int64)
theorem hd_X0_roundedOff : yX0_roundedOff.cls ≠ "java/lang/invoke/MethodHandle" ∧ yX0_roundedOff.cls ≠ "java/lang/invoke/VarHandle" ∧ (parseMethodDescriptor yX0_roundedOff.desc).map (fun d => d.parameters.length) = some 1 := by decide +kernel
set_option maxHeartbeats 4000000 in
set_option maxRecDepth 100000 in
theorem c_X0_roundedOff (l : Launch) (x0 : Int64) : Met l yX0_roundedOff wsX0_roundedOff ({ frames := 1, cells := 0, slots := 0, locals := 25 }) (P0 [.long x0]) (k2_QcV (.long (fX0_roundedOff x0))) 0 0 (fun _ => False) := by
  refine Met.ofW (cc := cX0_roundedOff) (maxL := 4) (ret := (some .long)) (by decide) rfl ?_
  intro p e s m args below meth c s₁ B hml hv
  have hv2 : args = _ := hv
  subst hv2
  have hx := B.exec
  have hb := B.bytes
  have hr := B.returns
  have hts := atoms_spec (ws := wsX0_roundedOff) B.pre
  have hown : s.vm.findClass RX0 = some m.cls := findClass_of_methodNamed B.named
  have hlocks := B.notSynchronized
  have hl := lv_entry ([.long x0]) (n := 4) (Nat.le_of_ble_eq_true rfl)
  rw [lg_entry_eq]
  generalize (lg_sl ([.long x0]) ++ List.replicate (4 - (lg_sl ([.long x0])).length) Slot.unset).toArray = ls at hl ⊢
  have hl : lv_has ls 4 [(0, .long x0)] := hl
  refine lv_lload_n hx hb dX0_roundedOff_0 rfl (lv_at hl 0 rfl) ?_
  refine lv_iconst (v := 3) hx hb dX0_roundedOff_1 (by decide) ?_
  refine lv_lshr hx hb dX0_roundedOff_2 rfl ?_
  refine lv_lstore_n (lv' := [(2, .long (x0 >>> ((3 : Int32).toInt64 &&& 63))), (0, .long x0)]) hx hb dX0_roundedOff_3 rfl hl (by decide) rfl (fun ls hl => ?_)
  refine lv_lload_n hx hb dX0_roundedOff_4 rfl (lv_at hl 1 rfl) ?_
  refine lv_ldc2 (v := (7)) hx hb hown (hts (.constantLong RX0 104 (7)) (by decide +kernel)) dX0_roundedOff_5 ?_
  refine lv_land hx hb dX0_roundedOff_8 ?_
  refine lv_ldc2 (v := (4)) hx hb hown (hts (.constantLong RX0 106 (4)) (by decide +kernel)) dX0_roundedOff_9 ?_
  refine lv_lload_n hx hb dX0_roundedOff_12 rfl (lv_at hl 0 rfl) ?_
  refine pc_0 (As := [.long (x0 &&& (7 : Int64)), .long (4 : Int64), .long (x0 >>> ((3 : Int32).toInt64 &&& 63))]) (rest := []) (r := .int (fX0_isRoundedUp (x0 &&& (7 : Int64)) (4 : Int64) (x0 >>> ((3 : Int32).toInt64 &&& 63)))) ⟨hx, hb, hml, hown, hts⟩ (c_X0_isRoundedUp l (x0 &&& (7 : Int64)) (4 : Int64) (x0 >>> ((3 : Int32).toInt64 &&& 63))) (va_cwS 3 hts gX0_roundedOff_X0_isRoundedUp rfl rfl rfl hd_X0_isRoundedUp ⟨Nat.le_of_ble_eq_true rfl, Nat.le_of_ble_eq_true rfl⟩) rfl hl.1 rfl (lv_room (Nat.le_of_ble_eq_true rfl)) dX0_roundedOff_13 ⟨Nat.zero_le _, Nat.zero_le _⟩ ?_
  refine lv_if_eq (tgt := 25) hx hb dX0_roundedOff_16 (by decide) (fun c_1 => ?_) (fun c_1 => ?_)
  · refine lv_lload_n hx hb dX0_roundedOff_25 rfl (lv_at hl 0 rfl) ?_
    exact W.lret hx hb hr (fun t ht _ => ⟨congrArg (fun z => Outcome.returned (some (Value.long z))) (by unfold fX0_roundedOff; rw [if_pos c_1]), ht⟩) (fun _ h => nomatch h) dX0_roundedOff_26
  · refine lv_lload_n hx hb dX0_roundedOff_19 rfl (lv_at hl 0 rfl) ?_
    refine lv_lconst (v := 1) hx hb dX0_roundedOff_20 (by decide) ?_
    refine lv_ladd hx hb dX0_roundedOff_21 ?_
    refine lv_goto (tgt := 26) hx hb dX0_roundedOff_22 (by decide) ?_
    exact W.lret hx hb hr (fun t ht _ => ⟨congrArg (fun z => Outcome.returned (some (Value.long z))) (by unfold fX0_roundedOff; rw [if_neg c_1]), ht⟩) (fun _ h => nomatch h) dX0_roundedOff_26
/-- the loop of sizeFrom: at most n turns -/
def sfLoop : Nat → Int64 → Int64 → Int32 → Int64 × Int32
  | 0, _, sig, pl => (sig, pl)
  | n + 1, top, sig, pl => if top ≤ sig then (sig, pl) else if pl ≤ 1 then (sig, pl) else sfLoop n top (sig <<< ((1 : Int32).toInt64 &&& 63)) (pl + (-1))
section SF
variable {p : Program} {l : Launch} {e : Env} {R : Room} {s : State} {m : MethodId} {args : Array Value} {below : List Frame} {meth : Method} {c : Code} {H : Heap} {locs : List Loc} {cells slots : Nat} {Q : State → Prop} {rest : List Value}
set_option maxHeartbeats 4000000 in
set_option maxRecDepth 100000 in
theorem sf_loop (hx : p.tables.exec = Jvm.exec) (hb : c.code = cX0_sizeFrom) {r0 : Nat} {top : Int64} : ∀ (n k : Nat) {i9 : Int32} {sig : Int64} {pl : Int32} {ls : Array Slot}, k + n = 64 → i9 = nI k →
    lv_has ls 10 [(9, .int i9), (8, .int pl), (6, .long sig), (4, .long top), (0, .ref r0)] →
    (∀ ls : Array Slot, lv_has ls 10 [(8, .int (sfLoop n top sig pl).2), (6, .long (sfLoop n top sig pl).1), (0, .ref r0)] → W p l e R s m args below meth c H locs cells slots Q (F0 m 74 ls rest)) →
    W p l e R s m args below meth c H locs cells slots Q (F0 m 38 ls rest) := by
  intro n
  induction n with
  | zero =>
    intro k i9 sig pl ls hk h9 hl kk
    have hk : k = 64 := by omega
    subst hk
    refine lv_iload hx hb dX0_sizeFrom_38 (lv_at hl 0 rfl) ?_
    refine lv_bipush (v := (64)) hx hb dX0_sizeFrom_40 (by decide) ?_
    refine lv_icmp_ge (tgt := 74) hx hb dX0_sizeFrom_42 (by decide) (fun c_1 => ?_) (fun c_1 => ?_)
    · exact kk ls (lv_sub hl [1, 2, 4] rfl)
    · exact absurd (by rw [h9]; decide) c_1
  | succ n ih =>
    intro k i9 sig pl ls hk h9 hl kk
    refine lv_iload hx hb dX0_sizeFrom_38 (lv_at hl 0 rfl) ?_
    refine lv_bipush (v := (64)) hx hb dX0_sizeFrom_40 (by decide) ?_
    refine lv_icmp_ge (tgt := 74) hx hb dX0_sizeFrom_42 (by decide) (fun c_1 => ?_) (fun c_1 => ?_)
    · exact absurd c_1 (by rw [h9]; exact nI_ge (a := k) (b := 64) (by omega) (by decide))
    · refine lv_lload hx hb dX0_sizeFrom_45 (lv_at hl 2 rfl) ?_
      refine lv_lload hx hb dX0_sizeFrom_47 (lv_at hl 3 rfl) ?_
      refine pl_ge (tgt := 74) hx hb dX0_sizeFrom_49 dX0_sizeFrom_50 (by decide) (fun c_2 => ?_) (fun c_2 => ?_)
      · exact kk ls (by rw [sfLoop, if_pos c_2]; exact lv_sub hl [1, 2, 4] rfl)
      · refine lv_iload hx hb dX0_sizeFrom_53 (lv_at hl 1 rfl) ?_
        refine lv_iconst (v := 1) hx hb dX0_sizeFrom_55 (by decide) ?_
        refine lv_icmp_le (tgt := 74) hx hb dX0_sizeFrom_56 (by decide) (fun c_3 => ?_) (fun c_3 => ?_)
        · exact kk ls (by rw [sfLoop, if_neg c_2, if_pos c_3]; exact lv_sub hl [1, 2, 4] rfl)
        · refine lv_lload hx hb dX0_sizeFrom_59 (lv_at hl 2 rfl) ?_
          refine lv_iconst (v := 1) hx hb dX0_sizeFrom_61 (by decide) ?_
          refine lv_lshl hx hb dX0_sizeFrom_62 rfl ?_
          refine lv_lstore (lv' := [(6, .long (sig <<< ((1 : Int32).toInt64 &&& 63))), (9, .int i9), (8, .int pl), (4, .long top), (0, .ref r0)]) hx hb dX0_sizeFrom_63 hl (by decide) rfl (fun ls hl => ?_)
          refine lv_iinc (v := pl + (-1)) (lv' := [(8, .int (pl + (-1))), (6, .long (sig <<< ((1 : Int32).toInt64 &&& 63))), (9, .int i9), (4, .long top), (0, .ref r0)]) hx hb dX0_sizeFrom_65 hl (k := 2) rfl rfl (by decide) rfl (fun ls hl => ?_)
          refine lv_iinc (v := i9 + 1) (lv' := [(9, .int (i9 + 1)), (8, .int (pl + (-1))), (6, .long (sig <<< ((1 : Int32).toInt64 &&& 63))), (4, .long top), (0, .ref r0)]) hx hb dX0_sizeFrom_68 hl (k := 2) rfl rfl (by decide) rfl (fun ls hl => ?_)
          refine lv_goto (tgt := 38) hx hb dX0_sizeFrom_71 (by decide) ?_
          refine ih (k + 1) (by omega) (by rw [h9]; exact nI_1 k) hl (fun ls hl => kk ls ?_)
          rw [sfLoop, if_neg c_2, if_neg c_3]
          exact hl
end SF
def fX0_sizeFrom (i : Nat) (x1 : Int64) (x3 : Int32) : Int64 :=
  let v6_1 : Int64 := (kHid i) <<< ((3 : Int32).toInt64 &&& 63)
  if x1 < (v6_1 <<< ((1 : Int32).toInt64 &&& 63)) then
    if ((sfLoop 64 v6_1 x1 x3).2) ≤ ((2 : Int32) * (kBias i)) then
      (((((sfLoop 64 v6_1 x1 x3).2).toInt64) - (1 : Int64)) <<< ((kFrac i).toInt64 &&& 63)) + (fX0_roundedOff ((sfLoop 64 v6_1 x1 x3).1))
    else
      kInf i
  else
    if ((sfLoop 64 v6_1 (fX0_shiftedDown x1 (1 : Int32)) (x3 + (1))).2) ≤ ((2 : Int32) * (kBias i)) then
      (((((sfLoop 64 v6_1 (fX0_shiftedDown x1 (1 : Int32)) (x3 + (1))).2).toInt64) - (1 : Int64)) <<< ((kFrac i).toInt64 &&& 63)) + (fX0_roundedOff ((sfLoop 64 v6_1 (fX0_shiftedDown x1 (1 : Int32)) (x3 + (1))).1))
    else
      kInf i
theorem hd_X0_sizeFrom : yX0_sizeFrom.cls = RX0 ∧ yX0_sizeFrom.cls ≠ "java/lang/invoke/MethodHandle" ∧ yX0_sizeFrom.cls ≠ "java/lang/invoke/VarHandle" ∧ (parseMethodDescriptor yX0_sizeFrom.desc).map (fun d => d.parameters.length) = some 2 := by decide +kernel
set_option maxHeartbeats 4000000 in
set_option maxRecDepth 100000 in
theorem c_X0_sizeFrom (l : Launch) (ad : Nat → Nat) (i : Nat) (hi : i < 2) (x1 : Int64) (x3 : Int32) : Met l yX0_sizeFrom wsX0_sizeFrom ({ frames := 2, cells := 0, slots := 0, locals := 48 }) (PK ad [.ref (ad i), .long x1, .int x3]) (k2_QcV (.long (fX0_sizeFrom i x1 x3))) 0 0 (fun _ => False) := by
  refine Met.ofW (cc := cX0_sizeFrom) (maxL := 10) (ret := (some .long)) (by decide) rfl ?_
  intro p e s m args below meth c s₁ B hml hv
  obtain ⟨rfl, hKC⟩ := hv
  have hx := B.exec
  have hb := B.bytes
  have hr := B.returns
  have hts := atoms_spec (ws := wsX0_sizeFrom) B.pre
  have hown : s.vm.findClass RX0 = some m.cls := findClass_of_methodNamed B.named
  have hlocks := B.notSynchronized
  have hS : va_S (fun _ => False) s.heap s.heap [] := va_S.rf
  have hl := lv_entry ([.ref (ad i), .long x1, .int x3]) (n := 10) (Nat.le_of_ble_eq_true rfl)
  rw [lg_entry_eq]
  generalize (lg_sl ([.ref (ad i), .long x1, .int x3]) ++ List.replicate (10 - (lg_sl ([.ref (ad i), .long x1, .int x3])).length) Slot.unset).toArray = ls at hl ⊢
  have hl : lv_has ls 10 [(0, .ref (ad i)), (1, .long x1), (3, .int x3)] := hl
  refine lv_aload_n hx hb dX0_sizeFrom_0 rfl (lv_at hl 0 rfl) ?_
  refine pk_hid hx hb hKC hi hS hown (hts (.fieldLink RX0 40 "NeedleBoard$Kind" "hiddenBit" "J") (by decide +kernel)) dX0_sizeFrom_1 ?_
  refine lv_iconst (v := 3) hx hb dX0_sizeFrom_4 (by decide) ?_
  refine lv_lshl hx hb dX0_sizeFrom_5 rfl ?_
  refine lv_topl (fun v6_1 e_v6_1 => ?_)
  refine lv_lstore (lv' := [(4, .long v6_1), (0, .ref (ad i)), (1, .long x1), (3, .int x3)]) hx hb dX0_sizeFrom_6 hl (by decide) rfl (fun ls hl => ?_)
  refine lv_lload_n hx hb dX0_sizeFrom_8 rfl (lv_at hl 2 rfl) ?_
  refine lv_lstore (lv' := [(6, .long x1), (4, .long v6_1), (0, .ref (ad i)), (1, .long x1), (3, .int x3)]) hx hb dX0_sizeFrom_9 hl (by decide) rfl (fun ls hl => ?_)
  refine lv_iload_n hx hb dX0_sizeFrom_11 rfl (lv_at hl 4 rfl) ?_
  refine lv_istore (lv' := [(8, .int x3), (6, .long x1), (4, .long v6_1), (0, .ref (ad i)), (1, .long x1), (3, .int x3)]) hx hb dX0_sizeFrom_12 hl (by decide) rfl (fun ls hl => ?_)
  refine lv_lload hx hb dX0_sizeFrom_14 (lv_at hl 1 rfl) ?_
  refine lv_lload hx hb dX0_sizeFrom_16 (lv_at hl 2 rfl) ?_
  refine lv_iconst (v := 1) hx hb dX0_sizeFrom_18 (by decide) ?_
  refine lv_lshl hx hb dX0_sizeFrom_19 rfl ?_
  refine pl_lt (tgt := 35) hx hb dX0_sizeFrom_20 dX0_sizeFrom_21 (by decide) (fun c_2 => ?_) (fun c_2 => ?_)
  · refine lv_iconst (v := 0) hx hb dX0_sizeFrom_35 (by decide) ?_
    refine lv_istore (lv' := [(9, .int (0 : Int32)), (8, .int x3), (6, .long x1), (4, .long v6_1), (0, .ref (ad i)), (1, .long x1), (3, .int x3)]) hx hb dX0_sizeFrom_36 hl (by decide) rfl (fun ls hl => ?_)
    refine sf_loop hx hb 64 0 rfl rfl (lv_sub hl [0, 1, 2, 3, 4] rfl) (fun ls hl => ?_)
    refine lv_iload hx hb dX0_sizeFrom_74 (lv_at hl 0 rfl) ?_
    refine lv_iconst (v := 2) hx hb dX0_sizeFrom_76 (by decide) ?_
    refine lv_aload_n hx hb dX0_sizeFrom_77 rfl (lv_at hl 2 rfl) ?_
    refine pk_bias hx hb hKC hi hS hown (hts (.fieldLink RX0 33 "NeedleBoard$Kind" "bias" "I") (by decide +kernel)) dX0_sizeFrom_78 ?_
    refine lv_imul hx hb dX0_sizeFrom_81 ?_
    refine lv_icmp_le (tgt := 90) hx hb dX0_sizeFrom_82 (by decide) (fun c_3 => ?_) (fun c_3 => ?_)
    · refine lv_iload hx hb dX0_sizeFrom_90 (lv_at hl 0 rfl) ?_
      refine lv_i2l hx hb dX0_sizeFrom_92 rfl ?_
      refine lv_lconst (v := 1) hx hb dX0_sizeFrom_93 (by decide) ?_
      refine lv_lsub hx hb dX0_sizeFrom_94 ?_
      refine lv_aload_n hx hb dX0_sizeFrom_95 rfl (lv_at hl 2 rfl) ?_
      refine pk_frac hx hb hKC hi hS hown (hts (.fieldLink RX0 29 "NeedleBoard$Kind" "fractionBits" "I") (by decide +kernel)) dX0_sizeFrom_96 ?_
      refine lv_lshl hx hb dX0_sizeFrom_99 rfl ?_
      refine lv_lload hx hb dX0_sizeFrom_100 (lv_at hl 1 rfl) ?_
      refine pc_0 (As := [.long ((sfLoop 64 v6_1 x1 x3).1)]) (rest := [.long (((((sfLoop 64 v6_1 x1 x3).2).toInt64) - (1 : Int64)) <<< ((kFrac i).toInt64 &&& 63))]) (r := .long (fX0_roundedOff ((sfLoop 64 v6_1 x1 x3).1))) ⟨hx, hb, hml, hown, hts⟩ (c_X0_roundedOff l ((sfLoop 64 v6_1 x1 x3).1)) (va_cwS 1 hts gX0_sizeFrom_X0_roundedOff rfl rfl rfl hd_X0_roundedOff ⟨Nat.le_of_ble_eq_true rfl, Nat.le_of_ble_eq_true rfl⟩) rfl hl.1 rfl (lv_room (Nat.le_of_ble_eq_true rfl)) dX0_sizeFrom_102 ⟨Nat.zero_le _, Nat.zero_le _⟩ ?_
      refine lv_ladd hx hb dX0_sizeFrom_105 ?_
      exact W.lret hx hb hr (fun t ht _ => ⟨congrArg (fun z => Outcome.returned (some (Value.long z))) (by subst e_v6_1; unfold fX0_sizeFrom; dsimp only; rw [if_pos c_2, if_pos c_3]), ht⟩) (fun _ h => nomatch h) dX0_sizeFrom_106
    · refine lv_aload_n hx hb dX0_sizeFrom_85 rfl (lv_at hl 2 rfl) ?_
      refine pk_inf hx hb hKC hi hS hown (hts (.fieldLink RX0 48 "NeedleBoard$Kind" "infinity" "J") (by decide +kernel)) dX0_sizeFrom_86 ?_
      exact W.lret hx hb hr (fun t ht _ => ⟨congrArg (fun z => Outcome.returned (some (Value.long z))) (by subst e_v6_1; unfold fX0_sizeFrom; dsimp only; rw [if_pos c_2, if_neg c_3]), ht⟩) (fun _ h => nomatch h) dX0_sizeFrom_89
  · refine lv_lload hx hb dX0_sizeFrom_24 (lv_at hl 1 rfl) ?_
    refine lv_iconst (v := 1) hx hb dX0_sizeFrom_26 (by decide) ?_
    refine pc_0 (As := [.long x1, .int (1 : Int32)]) (rest := []) (r := .long (fX0_shiftedDown x1 (1 : Int32))) ⟨hx, hb, hml, hown, hts⟩ (c_X0_shiftedDown l x1 (1 : Int32)) (va_cwS 2 hts gX0_sizeFrom_X0_shiftedDown rfl rfl rfl hd_X0_shiftedDown ⟨Nat.le_of_ble_eq_true rfl, Nat.le_of_ble_eq_true rfl⟩) rfl hl.1 rfl (lv_room (Nat.le_of_ble_eq_true rfl)) dX0_sizeFrom_27 ⟨Nat.zero_le _, Nat.zero_le _⟩ ?_
    refine lv_lstore (lv' := [(6, .long (fX0_shiftedDown x1 (1 : Int32))), (8, .int x3), (4, .long v6_1), (0, .ref (ad i)), (1, .long x1), (3, .int x3)]) hx hb dX0_sizeFrom_30 hl (by decide) rfl (fun ls hl => ?_)
    refine lv_iinc (v := x3 + (1)) (lv' := [(8, .int (x3 + (1))), (6, .long (fX0_shiftedDown x1 (1 : Int32))), (4, .long v6_1), (0, .ref (ad i)), (1, .long x1), (3, .int x3)]) hx hb dX0_sizeFrom_32 hl (k := 1) rfl rfl (by decide) rfl (fun ls hl => ?_)
    refine lv_iconst (v := 0) hx hb dX0_sizeFrom_35 (by decide) ?_
    refine lv_istore (lv' := [(9, .int (0 : Int32)), (8, .int (x3 + (1))), (6, .long (fX0_shiftedDown x1 (1 : Int32))), (4, .long v6_1), (0, .ref (ad i)), (1, .long x1), (3, .int x3)]) hx hb dX0_sizeFrom_36 hl (by decide) rfl (fun ls hl => ?_)
    refine sf_loop hx hb 64 0 rfl rfl (lv_sub hl [0, 1, 2, 3, 4] rfl) (fun ls hl => ?_)
    refine lv_iload hx hb dX0_sizeFrom_74 (lv_at hl 0 rfl) ?_
    refine lv_iconst (v := 2) hx hb dX0_sizeFrom_76 (by decide) ?_
    refine lv_aload_n hx hb dX0_sizeFrom_77 rfl (lv_at hl 2 rfl) ?_
    refine pk_bias hx hb hKC hi hS hown (hts (.fieldLink RX0 33 "NeedleBoard$Kind" "bias" "I") (by decide +kernel)) dX0_sizeFrom_78 ?_
    refine lv_imul hx hb dX0_sizeFrom_81 ?_
    refine lv_icmp_le (tgt := 90) hx hb dX0_sizeFrom_82 (by decide) (fun c_4 => ?_) (fun c_4 => ?_)
    · refine lv_iload hx hb dX0_sizeFrom_90 (lv_at hl 0 rfl) ?_
      refine lv_i2l hx hb dX0_sizeFrom_92 rfl ?_
      refine lv_lconst (v := 1) hx hb dX0_sizeFrom_93 (by decide) ?_
      refine lv_lsub hx hb dX0_sizeFrom_94 ?_
      refine lv_aload_n hx hb dX0_sizeFrom_95 rfl (lv_at hl 2 rfl) ?_
      refine pk_frac hx hb hKC hi hS hown (hts (.fieldLink RX0 29 "NeedleBoard$Kind" "fractionBits" "I") (by decide +kernel)) dX0_sizeFrom_96 ?_
      refine lv_lshl hx hb dX0_sizeFrom_99 rfl ?_
      refine lv_lload hx hb dX0_sizeFrom_100 (lv_at hl 1 rfl) ?_
      refine pc_0 (As := [.long ((sfLoop 64 v6_1 (fX0_shiftedDown x1 (1 : Int32)) (x3 + (1))).1)]) (rest := [.long (((((sfLoop 64 v6_1 (fX0_shiftedDown x1 (1 : Int32)) (x3 + (1))).2).toInt64) - (1 : Int64)) <<< ((kFrac i).toInt64 &&& 63))]) (r := .long (fX0_roundedOff ((sfLoop 64 v6_1 (fX0_shiftedDown x1 (1 : Int32)) (x3 + (1))).1))) ⟨hx, hb, hml, hown, hts⟩ (c_X0_roundedOff l ((sfLoop 64 v6_1 (fX0_shiftedDown x1 (1 : Int32)) (x3 + (1))).1)) (va_cwS 1 hts gX0_sizeFrom_X0_roundedOff rfl rfl rfl hd_X0_roundedOff ⟨Nat.le_of_ble_eq_true rfl, Nat.le_of_ble_eq_true rfl⟩) rfl hl.1 rfl (lv_room (Nat.le_of_ble_eq_true rfl)) dX0_sizeFrom_102 ⟨Nat.zero_le _, Nat.zero_le _⟩ ?_
      refine lv_ladd hx hb dX0_sizeFrom_105 ?_
      exact W.lret hx hb hr (fun t ht _ => ⟨congrArg (fun z => Outcome.returned (some (Value.long z))) (by subst e_v6_1; unfold fX0_sizeFrom; dsimp only; rw [if_neg c_2, if_pos c_4]), ht⟩) (fun _ h => nomatch h) dX0_sizeFrom_106
    · refine lv_aload_n hx hb dX0_sizeFrom_85 rfl (lv_at hl 2 rfl) ?_
      refine pk_inf hx hb hKC hi hS hown (hts (.fieldLink RX0 48 "NeedleBoard$Kind" "infinity" "J") (by decide +kernel)) dX0_sizeFrom_86 ?_
      exact W.lret hx hb hr (fun t ht _ => ⟨congrArg (fun z => Outcome.returned (some (Value.long z))) (by subst e_v6_1; unfold fX0_sizeFrom; dsimp only; rw [if_neg c_2, if_neg c_4]), ht⟩) (fun _ h => nomatch h) dX0_sizeFrom_89
def fX0_wholeOfPart (i : Nat) (x1 : Int64) (x3 : Int32) : Int64 :=
  if x3 = (2 : Int32) then
    if (fX0_sizeOf i x1) ≤ ((kOne i) - (kHid i)) then
      (0 : Int64)
    else
      kOne i
  else
    if (fX0_growsBy x3 x1) = 0 then
      (0 : Int64)
    else
      kOne i
theorem hd_X0_wholeOfPart : yX0_wholeOfPart.cls = RX0 ∧ yX0_wholeOfPart.cls ≠ "java/lang/invoke/MethodHandle" ∧ yX0_wholeOfPart.cls ≠ "java/lang/invoke/VarHandle" ∧ (parseMethodDescriptor yX0_wholeOfPart.desc).map (fun d => d.parameters.length) = some 2 := by decide +kernel
set_option maxHeartbeats 4000000 in
set_option maxRecDepth 100000 in
theorem c_X0_wholeOfPart (l : Launch) (ad : Nat → Nat) (i : Nat) (hi : i < 2) (x1 : Int64) (x3 : Int32) : Met l yX0_wholeOfPart wsX0_wholeOfPart ({ frames := 1, cells := 0, slots := 0, locals := 22 }) (PK ad [.ref (ad i), .long x1, .int x3]) (k2_QcV (.long (fX0_wholeOfPart i x1 x3))) 0 0 (fun _ => False) := by
  refine Met.ofW (cc := cX0_wholeOfPart) (maxL := 7) (ret := (some .long)) (by decide) rfl ?_
  intro p e s m args below meth c s₁ B hml hv
  obtain ⟨rfl, hKC⟩ := hv
  have hx := B.exec
  have hb := B.bytes
  have hr := B.returns
  have hts := atoms_spec (ws := wsX0_wholeOfPart) B.pre
  have hown : s.vm.findClass RX0 = some m.cls := findClass_of_methodNamed B.named
  have hlocks := B.notSynchronized
  have hS : va_S (fun _ => False) s.heap s.heap [] := va_S.rf
  have hl := lv_entry ([.ref (ad i), .long x1, .int x3]) (n := 7) (Nat.le_of_ble_eq_true rfl)
  rw [lg_entry_eq]
  generalize (lg_sl ([.ref (ad i), .long x1, .int x3]) ++ List.replicate (7 - (lg_sl ([.ref (ad i), .long x1, .int x3])).length) Slot.unset).toArray = ls at hl ⊢
  have hl : lv_has ls 7 [(0, .ref (ad i)), (1, .long x1), (3, .int x3)] := hl
  refine lv_aload_n hx hb dX0_wholeOfPart_0 rfl (lv_at hl 0 rfl) ?_
  refine pk_one hx hb hKC hi hS hown (hts (.fieldLink RX0 43 "NeedleBoard$Kind" "one" "J") (by decide +kernel)) dX0_wholeOfPart_1 ?_
  refine lv_aload_n hx hb dX0_wholeOfPart_4 rfl (lv_at hl 0 rfl) ?_
  refine pk_hid hx hb hKC hi hS hown (hts (.fieldLink RX0 40 "NeedleBoard$Kind" "hiddenBit" "J") (by decide +kernel)) dX0_wholeOfPart_5 ?_
  refine lv_lsub hx hb dX0_wholeOfPart_8 ?_
  refine lv_lstore (lv' := [(4, .long ((kOne i) - (kHid i))), (0, .ref (ad i)), (1, .long x1), (3, .int x3)]) hx hb dX0_wholeOfPart_9 hl (by decide) rfl (fun ls hl => ?_)
  refine lv_iload_n hx hb dX0_wholeOfPart_11 rfl (lv_at hl 3 rfl) ?_
  refine lv_iconst (v := 2) hx hb dX0_wholeOfPart_12 (by decide) ?_
  refine lv_icmp_ne (tgt := 35) hx hb dX0_wholeOfPart_13 (by decide) (fun c_1 => ?_) (fun c_1 => ?_)
  · refine lv_iload_n hx hb dX0_wholeOfPart_35 rfl (lv_at hl 3 rfl) ?_
    refine lv_lload_n hx hb dX0_wholeOfPart_36 rfl (lv_at hl 2 rfl) ?_
    refine pc_0 (As := [.int x3, .long x1]) (rest := []) (r := .int (fX0_growsBy x3 x1)) ⟨hx, hb, hml, hown, hts⟩ (c_X0_growsBy l x3 x1) (va_cwS 2 hts gX0_wholeOfPart_X0_growsBy rfl rfl rfl hd_X0_growsBy ⟨Nat.le_of_ble_eq_true rfl, Nat.le_of_ble_eq_true rfl⟩) rfl hl.1 rfl (lv_room (Nat.le_of_ble_eq_true rfl)) dX0_wholeOfPart_37 ⟨Nat.zero_le _, Nat.zero_le _⟩ ?_
    refine lv_istore (lv' := [(6, .int (fX0_growsBy x3 x1)), (4, .long ((kOne i) - (kHid i))), (0, .ref (ad i)), (1, .long x1), (3, .int x3)]) hx hb dX0_wholeOfPart_40 hl (by decide) rfl (fun ls hl => ?_)
    refine lv_iload hx hb dX0_wholeOfPart_42 (lv_at hl 0 rfl) ?_
    refine lv_if_eq (tgt := 54) hx hb dX0_wholeOfPart_44 (by decide) (fun c_2 => ?_) (fun c_2 => ?_)
    · refine lv_lconst (v := 0) hx hb dX0_wholeOfPart_54 (by decide) ?_
      exact W.lret hx hb hr (fun t ht _ => ⟨congrArg (fun z => Outcome.returned (some (Value.long z))) (by unfold fX0_wholeOfPart; rw [if_neg c_1, if_pos c_2]), ht⟩) (fun _ h => nomatch h) dX0_wholeOfPart_55
    · refine lv_aload_n hx hb dX0_wholeOfPart_47 rfl (lv_at hl 2 rfl) ?_
      refine pk_one hx hb hKC hi hS hown (hts (.fieldLink RX0 43 "NeedleBoard$Kind" "one" "J") (by decide +kernel)) dX0_wholeOfPart_48 ?_
      refine lv_goto (tgt := 55) hx hb dX0_wholeOfPart_51 (by decide) ?_
      exact W.lret hx hb hr (fun t ht _ => ⟨congrArg (fun z => Outcome.returned (some (Value.long z))) (by unfold fX0_wholeOfPart; rw [if_neg c_1, if_neg c_2]), ht⟩) (fun _ h => nomatch h) dX0_wholeOfPart_55
  · refine lv_aload_n hx hb dX0_wholeOfPart_16 rfl (lv_at hl 1 rfl) ?_
    refine lv_lload_n hx hb dX0_wholeOfPart_17 rfl (lv_at hl 2 rfl) ?_
    refine pc_V (i := i) (As := [.long x1]) (rest := []) (r := .long (fX0_sizeOf i x1)) ⟨hx, hb, hml, hown, hts⟩ (c_X0_sizeOf l ad i hi x1) (cwV 1 hts gX0_wholeOfPart_X0_sizeOf rfl rfl rfl hd_X0_sizeOf ⟨Nat.le_of_ble_eq_true rfl, Nat.le_of_ble_eq_true rfl⟩) hKC hS hi rfl hl.1 rfl (lv_room (Nat.le_of_ble_eq_true rfl)) dX0_wholeOfPart_18 ⟨Nat.zero_le _, Nat.zero_le _⟩ ?_
    refine lv_lload hx hb dX0_wholeOfPart_21 (lv_at hl 0 rfl) ?_
    refine pl_le (tgt := 31) hx hb dX0_wholeOfPart_23 dX0_wholeOfPart_24 (by decide) (fun c_3 => ?_) (fun c_3 => ?_)
    · refine lv_iconst (v := 0) hx hb dX0_wholeOfPart_31 (by decide) ?_
      refine lv_goto (tgt := 40) hx hb dX0_wholeOfPart_32 (by decide) ?_
      refine lv_istore (lv' := [(6, .int (0 : Int32)), (4, .long ((kOne i) - (kHid i))), (0, .ref (ad i)), (1, .long x1), (3, .int x3)]) hx hb dX0_wholeOfPart_40 hl (by decide) rfl (fun ls hl => ?_)
      refine lv_iload hx hb dX0_wholeOfPart_42 (lv_at hl 0 rfl) ?_
      refine lv_if_eq (tgt := 54) hx hb dX0_wholeOfPart_44 (by decide) (fun _ => ?_) (fun h9 => absurd h9 (by decide))
      refine lv_lconst (v := 0) hx hb dX0_wholeOfPart_54 (by decide) ?_
      exact W.lret hx hb hr (fun t ht _ => ⟨congrArg (fun z => Outcome.returned (some (Value.long z))) (by unfold fX0_wholeOfPart; rw [if_pos c_1, if_pos c_3]), ht⟩) (fun _ h => nomatch h) dX0_wholeOfPart_55
    · refine lv_iconst (v := 1) hx hb dX0_wholeOfPart_27 (by decide) ?_
      refine lv_goto (tgt := 40) hx hb dX0_wholeOfPart_28 (by decide) ?_
      refine lv_istore (lv' := [(6, .int (1 : Int32)), (4, .long ((kOne i) - (kHid i))), (0, .ref (ad i)), (1, .long x1), (3, .int x3)]) hx hb dX0_wholeOfPart_40 hl (by decide) rfl (fun ls hl => ?_)
      refine lv_iload hx hb dX0_wholeOfPart_42 (lv_at hl 0 rfl) ?_
      refine lv_if_eq (tgt := 54) hx hb dX0_wholeOfPart_44 (by decide) (fun h9 => absurd h9 (by decide)) (fun _ => ?_)
      refine lv_aload_n hx hb dX0_wholeOfPart_47 rfl (lv_at hl 2 rfl) ?_
      refine pk_one hx hb hKC hi hS hown (hts (.fieldLink RX0 43 "NeedleBoard$Kind" "one" "J") (by decide +kernel)) dX0_wholeOfPart_48 ?_
      refine lv_goto (tgt := 55) hx hb dX0_wholeOfPart_51 (by decide) ?_
      exact W.lret hx hb hr (fun t ht _ => ⟨congrArg (fun z => Outcome.returned (some (Value.long z))) (by unfold fX0_wholeOfPart; rw [if_pos c_1, if_neg c_3]), ht⟩) (fun _ h => nomatch h) dX0_wholeOfPart_55
def fX0_wholeOfMixed (i : Nat) (x1 : Int64) (x3 : Int32) (x4 : Int32) : Int64 :=
  let v20_1 : Int64 := (fX0_sizeOf i x1) &&& (((1 : Int64) <<< (x4.toInt64 &&& 63)) - (1 : Int64))
  if v20_1 = (0 : Int64) then
    fX0_sizeOf i x1
  else
    if x3 = (2 : Int32) then
      let v70_5 : Int32 := fX0_isRoundedUp v20_1 (((1 : Int64) <<< (x4.toInt64 &&& 63)) >>> ((1 : Int32).toInt64 &&& 63)) ((fX0_significandOf i (fX0_sizeOf i x1)) >>> (x4.toInt64 &&& 63))
      if v70_5 = 0 then
        (fX0_sizeOf i x1) - v20_1
      else
        ((fX0_sizeOf i x1) - v20_1) + ((1 : Int64) <<< (x4.toInt64 &&& 63))
    else
      if (fX0_growsBy x3 x1) = 0 then
        (fX0_sizeOf i x1) - v20_1
      else
        ((fX0_sizeOf i x1) - v20_1) + ((1 : Int64) <<< (x4.toInt64 &&& 63))
theorem hd_X0_wholeOfMixed : yX0_wholeOfMixed.cls = RX0 ∧ yX0_wholeOfMixed.cls ≠ "java/lang/invoke/MethodHandle" ∧ yX0_wholeOfMixed.cls ≠ "java/lang/invoke/VarHandle" ∧ (parseMethodDescriptor yX0_wholeOfMixed.desc).map (fun d => d.parameters.length) = some 3 := by decide +kernel
set_option maxHeartbeats 4000000 in
set_option maxRecDepth 100000 in
theorem c_X0_wholeOfMixed (l : Launch) (ad : Nat → Nat) (i : Nat) (hi : i < 2) (x1 : Int64) (x3 : Int32) (x4 : Int32) : Met l yX0_wholeOfMixed wsX0_wholeOfMixed ({ frames := 1, cells := 0, slots := 0, locals := 25 }) (PK ad [.ref (ad i), .long x1, .int x3, .int x4]) (k2_QcV (.long (fX0_wholeOfMixed i x1 x3 x4))) 0 0 (fun _ => False) := by
  refine Met.ofW (cc := cX0_wholeOfMixed) (maxL := 14) (ret := (some .long)) (by decide) rfl ?_
  intro p e s m args below meth c s₁ B hml hv
  obtain ⟨rfl, hKC⟩ := hv
  have hx := B.exec
  have hb := B.bytes
  have hr := B.returns
  have hts := atoms_spec (ws := wsX0_wholeOfMixed) B.pre
  have hown : s.vm.findClass RX0 = some m.cls := findClass_of_methodNamed B.named
  have hlocks := B.notSynchronized
  have hS : va_S (fun _ => False) s.heap s.heap [] := va_S.rf
  have hl := lv_entry ([.ref (ad i), .long x1, .int x3, .int x4]) (n := 14) (Nat.le_of_ble_eq_true rfl)
  rw [lg_entry_eq]
  generalize (lg_sl ([.ref (ad i), .long x1, .int x3, .int x4]) ++ List.replicate (14 - (lg_sl ([.ref (ad i), .long x1, .int x3, .int x4])).length) Slot.unset).toArray = ls at hl ⊢
  have hl : lv_has ls 14 [(0, .ref (ad i)), (1, .long x1), (3, .int x3), (4, .int x4)] := hl
  refine lv_aload_n hx hb dX0_wholeOfMixed_0 rfl (lv_at hl 0 rfl) ?_
  refine lv_lload_n hx hb dX0_wholeOfMixed_1 rfl (lv_at hl 1 rfl) ?_
  refine pc_V (i := i) (As := [.long x1]) (rest := []) (r := .long (fX0_sizeOf i x1)) ⟨hx, hb, hml, hown, hts⟩ (c_X0_sizeOf l ad i hi x1) (cwV 1 hts gX0_wholeOfMixed_X0_sizeOf rfl rfl rfl hd_X0_sizeOf ⟨Nat.le_of_ble_eq_true rfl, Nat.le_of_ble_eq_true rfl⟩) hKC hS hi rfl hl.1 rfl (lv_room (Nat.le_of_ble_eq_true rfl)) dX0_wholeOfMixed_2 ⟨Nat.zero_le _, Nat.zero_le _⟩ ?_
  refine lv_lstore (lv' := [(5, .long (fX0_sizeOf i x1)), (0, .ref (ad i)), (1, .long x1), (3, .int x3), (4, .int x4)]) hx hb dX0_wholeOfMixed_5 hl (by decide) rfl (fun ls hl => ?_)
  refine lv_lconst (v := 1) hx hb dX0_wholeOfMixed_7 (by decide) ?_
  refine lv_iload hx hb dX0_wholeOfMixed_8 (lv_at hl 4 rfl) ?_
  refine lv_lshl hx hb dX0_wholeOfMixed_10 rfl ?_
  refine lv_lstore (lv' := [(7, .long ((1 : Int64) <<< (x4.toInt64 &&& 63))), (5, .long (fX0_sizeOf i x1)), (0, .ref (ad i)), (1, .long x1), (3, .int x3), (4, .int x4)]) hx hb dX0_wholeOfMixed_11 hl (by decide) rfl (fun ls hl => ?_)
  refine lv_lload hx hb dX0_wholeOfMixed_13 (lv_at hl 1 rfl) ?_
  refine lv_lload hx hb dX0_wholeOfMixed_15 (lv_at hl 0 rfl) ?_
  refine lv_lconst (v := 1) hx hb dX0_wholeOfMixed_17 (by decide) ?_
  refine lv_lsub hx hb dX0_wholeOfMixed_18 ?_
  refine lv_land hx hb dX0_wholeOfMixed_19 ?_
  refine lv_topl (fun v20_1 e_v20_1 => ?_)
  refine lv_lstore (lv' := [(9, .long v20_1), (7, .long ((1 : Int64) <<< (x4.toInt64 &&& 63))), (5, .long (fX0_sizeOf i x1)), (0, .ref (ad i)), (1, .long x1), (3, .int x3), (4, .int x4)]) hx hb dX0_wholeOfMixed_20 hl (by decide) rfl (fun ls hl => ?_)
  refine lv_lload hx hb dX0_wholeOfMixed_22 (lv_at hl 2 rfl) ?_
  refine lv_lload hx hb dX0_wholeOfMixed_24 (lv_at hl 0 rfl) ?_
  refine lv_lsub hx hb dX0_wholeOfMixed_26 ?_
  refine lv_lstore (lv' := [(11, .long ((fX0_sizeOf i x1) - v20_1)), (9, .long v20_1), (7, .long ((1 : Int64) <<< (x4.toInt64 &&& 63))), (5, .long (fX0_sizeOf i x1)), (0, .ref (ad i)), (1, .long x1), (3, .int x3), (4, .int x4)]) hx hb dX0_wholeOfMixed_27 hl (by decide) rfl (fun ls hl => ?_)
  refine lv_lload hx hb dX0_wholeOfMixed_29 (lv_at hl 1 rfl) ?_
  refine lv_lconst (v := 0) hx hb dX0_wholeOfMixed_31 (by decide) ?_
  refine pl_ne (tgt := 39) hx hb dX0_wholeOfMixed_32 dX0_wholeOfMixed_33 (by decide) (fun c_2 => ?_) (fun c_2 => ?_)
  · refine lv_iload_n hx hb dX0_wholeOfMixed_39 rfl (lv_at hl 6 rfl) ?_
    refine lv_iconst (v := 2) hx hb dX0_wholeOfMixed_40 (by decide) ?_
    refine lv_icmp_ne (tgt := 65) hx hb dX0_wholeOfMixed_41 (by decide) (fun c_3 => ?_) (fun c_3 => ?_)
    · refine lv_iload_n hx hb dX0_wholeOfMixed_65 rfl (lv_at hl 6 rfl) ?_
      refine lv_lload_n hx hb dX0_wholeOfMixed_66 rfl (lv_at hl 5 rfl) ?_
      refine pc_0 (As := [.int x3, .long x1]) (rest := []) (r := .int (fX0_growsBy x3 x1)) ⟨hx, hb, hml, hown, hts⟩ (c_X0_growsBy l x3 x1) (va_cwS 2 hts gX0_wholeOfMixed_X0_growsBy rfl rfl rfl hd_X0_growsBy ⟨Nat.le_of_ble_eq_true rfl, Nat.le_of_ble_eq_true rfl⟩) rfl hl.1 rfl (lv_room (Nat.le_of_ble_eq_true rfl)) dX0_wholeOfMixed_67 ⟨Nat.zero_le _, Nat.zero_le _⟩ ?_
      refine lv_istore (lv' := [(13, .int (fX0_growsBy x3 x1)), (11, .long ((fX0_sizeOf i x1) - v20_1)), (9, .long v20_1), (7, .long ((1 : Int64) <<< (x4.toInt64 &&& 63))), (5, .long (fX0_sizeOf i x1)), (0, .ref (ad i)), (1, .long x1), (3, .int x3), (4, .int x4)]) hx hb dX0_wholeOfMixed_70 hl (by decide) rfl (fun ls hl => ?_)
      refine lv_iload hx hb dX0_wholeOfMixed_72 (lv_at hl 0 rfl) ?_
      refine lv_if_eq (tgt := 85) hx hb dX0_wholeOfMixed_74 (by decide) (fun c_4 => ?_) (fun c_4 => ?_)
      · refine lv_lload hx hb dX0_wholeOfMixed_85 (lv_at hl 1 rfl) ?_
        exact W.lret hx hb hr (fun t ht _ => ⟨congrArg (fun z => Outcome.returned (some (Value.long z))) (by subst e_v20_1; unfold fX0_wholeOfMixed; dsimp only; rw [if_neg c_2, if_neg c_3, if_pos c_4]), ht⟩) (fun _ h => nomatch h) dX0_wholeOfMixed_87
      · refine lv_lload hx hb dX0_wholeOfMixed_77 (lv_at hl 1 rfl) ?_
        refine lv_lload hx hb dX0_wholeOfMixed_79 (lv_at hl 3 rfl) ?_
        refine lv_ladd hx hb dX0_wholeOfMixed_81 ?_
        refine lv_goto (tgt := 87) hx hb dX0_wholeOfMixed_82 (by decide) ?_
        exact W.lret hx hb hr (fun t ht _ => ⟨congrArg (fun z => Outcome.returned (some (Value.long z))) (by subst e_v20_1; unfold fX0_wholeOfMixed; dsimp only; rw [if_neg c_2, if_neg c_3, if_neg c_4]), ht⟩) (fun _ h => nomatch h) dX0_wholeOfMixed_87
    · refine lv_lload hx hb dX0_wholeOfMixed_44 (lv_at hl 1 rfl) ?_
      refine lv_lload hx hb dX0_wholeOfMixed_46 (lv_at hl 2 rfl) ?_
      refine lv_iconst (v := 1) hx hb dX0_wholeOfMixed_48 (by decide) ?_
      refine lv_lshr hx hb dX0_wholeOfMixed_49 rfl ?_
      refine lv_aload_n hx hb dX0_wholeOfMixed_50 rfl (lv_at hl 4 rfl) ?_
      refine lv_lload hx hb dX0_wholeOfMixed_51 (lv_at hl 3 rfl) ?_
      refine pc_V (i := i) (As := [.long (fX0_sizeOf i x1)]) (rest := [.long (((1 : Int64) <<< (x4.toInt64 &&& 63)) >>> ((1 : Int32).toInt64 &&& 63)), .long v20_1]) (r := .long (fX0_significandOf i (fX0_sizeOf i x1))) ⟨hx, hb, hml, hown, hts⟩ (c_X0_significandOf l ad i hi (fX0_sizeOf i x1)) (cwV 1 hts gX0_wholeOfMixed_X0_significandOf rfl rfl rfl hd_X0_significandOf ⟨Nat.le_of_ble_eq_true rfl, Nat.le_of_ble_eq_true rfl⟩) hKC hS hi rfl hl.1 rfl (lv_room (Nat.le_of_ble_eq_true rfl)) dX0_wholeOfMixed_53 ⟨Nat.zero_le _, Nat.zero_le _⟩ ?_
      refine lv_iload hx hb dX0_wholeOfMixed_56 (lv_at hl 7 rfl) ?_
      refine lv_lshr hx hb dX0_wholeOfMixed_58 rfl ?_
      refine pc_0 (As := [.long v20_1, .long (((1 : Int64) <<< (x4.toInt64 &&& 63)) >>> ((1 : Int32).toInt64 &&& 63)), .long ((fX0_significandOf i (fX0_sizeOf i x1)) >>> (x4.toInt64 &&& 63))]) (rest := []) (r := .int (fX0_isRoundedUp v20_1 (((1 : Int64) <<< (x4.toInt64 &&& 63)) >>> ((1 : Int32).toInt64 &&& 63)) ((fX0_significandOf i (fX0_sizeOf i x1)) >>> (x4.toInt64 &&& 63)))) ⟨hx, hb, hml, hown, hts⟩ (c_X0_isRoundedUp l v20_1 (((1 : Int64) <<< (x4.toInt64 &&& 63)) >>> ((1 : Int32).toInt64 &&& 63)) ((fX0_significandOf i (fX0_sizeOf i x1)) >>> (x4.toInt64 &&& 63))) (va_cwS 3 hts gX0_wholeOfMixed_X0_isRoundedUp rfl rfl rfl hd_X0_isRoundedUp ⟨Nat.le_of_ble_eq_true rfl, Nat.le_of_ble_eq_true rfl⟩) rfl hl.1 rfl (lv_room (Nat.le_of_ble_eq_true rfl)) dX0_wholeOfMixed_59 ⟨Nat.zero_le _, Nat.zero_le _⟩ ?_
      refine lv_goto (tgt := 70) hx hb dX0_wholeOfMixed_62 (by decide) ?_
      refine lv_topi (fun v70_5 e_v70_5 => ?_)
      refine lv_istore (lv' := [(13, .int v70_5), (11, .long ((fX0_sizeOf i x1) - v20_1)), (9, .long v20_1), (7, .long ((1 : Int64) <<< (x4.toInt64 &&& 63))), (5, .long (fX0_sizeOf i x1)), (0, .ref (ad i)), (1, .long x1), (3, .int x3), (4, .int x4)]) hx hb dX0_wholeOfMixed_70 hl (by decide) rfl (fun ls hl => ?_)
      refine lv_iload hx hb dX0_wholeOfMixed_72 (lv_at hl 0 rfl) ?_
      refine lv_if_eq (tgt := 85) hx hb dX0_wholeOfMixed_74 (by decide) (fun c_6 => ?_) (fun c_6 => ?_)
      · refine lv_lload hx hb dX0_wholeOfMixed_85 (lv_at hl 1 rfl) ?_
        exact W.lret hx hb hr (fun t ht _ => ⟨congrArg (fun z => Outcome.returned (some (Value.long z))) (by subst e_v20_1 e_v70_5; unfold fX0_wholeOfMixed; dsimp only; rw [if_neg c_2, if_pos c_3, if_pos c_6]), ht⟩) (fun _ h => nomatch h) dX0_wholeOfMixed_87
      · refine lv_lload hx hb dX0_wholeOfMixed_77 (lv_at hl 1 rfl) ?_
        refine lv_lload hx hb dX0_wholeOfMixed_79 (lv_at hl 3 rfl) ?_
        refine lv_ladd hx hb dX0_wholeOfMixed_81 ?_
        refine lv_goto (tgt := 87) hx hb dX0_wholeOfMixed_82 (by decide) ?_
        exact W.lret hx hb hr (fun t ht _ => ⟨congrArg (fun z => Outcome.returned (some (Value.long z))) (by subst e_v20_1 e_v70_5; unfold fX0_wholeOfMixed; dsimp only; rw [if_neg c_2, if_pos c_3, if_neg c_6]), ht⟩) (fun _ h => nomatch h) dX0_wholeOfMixed_87
  · refine lv_lload hx hb dX0_wholeOfMixed_36 (lv_at hl 3 rfl) ?_
    exact W.lret hx hb hr (fun t ht _ => ⟨congrArg (fun z => Outcome.returned (some (Value.long z))) (by subst e_v20_1; unfold fX0_wholeOfMixed; dsimp only; rw [if_pos c_2]), ht⟩) (fun _ h => nomatch h) dX0_wholeOfMixed_38
def fX0_wholeOf (i : Nat) (x1 : Int64) (x3 : Int32) : Int64 :=
  let v18_1 : Int32 := (fX0_exponentOf i (fX0_sizeOf i x1)) - (kBias i)
  if (fX0_sizeOf i x1) = (0 : Int64) then
    x1
  else
    if v18_1 < (kFrac i) then
      if 0 ≤ v18_1 then
        let v65_5 : Int64 := fX0_wholeOfMixed i x1 x3 ((kFrac i) - v18_1)
        fX0_withSideOf i v65_5 x1
      else
        fX0_withSideOf i (fX0_wholeOfPart i x1 x3) x1
    else
      x1
theorem hd_X0_wholeOf : yX0_wholeOf.cls = RX0 ∧ yX0_wholeOf.cls ≠ "java/lang/invoke/MethodHandle" ∧ yX0_wholeOf.cls ≠ "java/lang/invoke/VarHandle" ∧ (parseMethodDescriptor yX0_wholeOf.desc).map (fun d => d.parameters.length) = some 2 := by decide +kernel
set_option maxHeartbeats 4000000 in
set_option maxRecDepth 100000 in
theorem c_X0_wholeOf (l : Launch) (ad : Nat → Nat) (i : Nat) (hi : i < 2) (x1 : Int64) (x3 : Int32) : Met l yX0_wholeOf wsX0_wholeOf ({ frames := 2, cells := 0, slots := 0, locals := 58 }) (PK ad [.ref (ad i), .long x1, .int x3]) (k2_QcV (.long (fX0_wholeOf i x1 x3))) 0 0 (fun _ => False) := by
  refine Met.ofW (cc := cX0_wholeOf) (maxL := 9) (ret := (some .long)) (by decide) rfl ?_
  intro p e s m args below meth c s₁ B hml hv
  obtain ⟨rfl, hKC⟩ := hv
  have hx := B.exec
  have hb := B.bytes
  have hr := B.returns
  have hts := atoms_spec (ws := wsX0_wholeOf) B.pre
  have hown : s.vm.findClass RX0 = some m.cls := findClass_of_methodNamed B.named
  have hlocks := B.notSynchronized
  have hS : va_S (fun _ => False) s.heap s.heap [] := va_S.rf
  have hl := lv_entry ([.ref (ad i), .long x1, .int x3]) (n := 9) (Nat.le_of_ble_eq_true rfl)
  rw [lg_entry_eq]
  generalize (lg_sl ([.ref (ad i), .long x1, .int x3]) ++ List.replicate (9 - (lg_sl ([.ref (ad i), .long x1, .int x3])).length) Slot.unset).toArray = ls at hl ⊢
  have hl : lv_has ls 9 [(0, .ref (ad i)), (1, .long x1), (3, .int x3)] := hl
  refine lv_aload_n hx hb dX0_wholeOf_0 rfl (lv_at hl 0 rfl) ?_
  refine lv_lload_n hx hb dX0_wholeOf_1 rfl (lv_at hl 1 rfl) ?_
  refine pc_V (i := i) (As := [.long x1]) (rest := []) (r := .long (fX0_sizeOf i x1)) ⟨hx, hb, hml, hown, hts⟩ (c_X0_sizeOf l ad i hi x1) (cwV 1 hts gX0_wholeOf_X0_sizeOf rfl rfl rfl hd_X0_sizeOf ⟨Nat.le_of_ble_eq_true rfl, Nat.le_of_ble_eq_true rfl⟩) hKC hS hi rfl hl.1 rfl (lv_room (Nat.le_of_ble_eq_true rfl)) dX0_wholeOf_2 ⟨Nat.zero_le _, Nat.zero_le _⟩ ?_
  refine lv_lstore (lv' := [(4, .long (fX0_sizeOf i x1)), (0, .ref (ad i)), (1, .long x1), (3, .int x3)]) hx hb dX0_wholeOf_5 hl (by decide) rfl (fun ls hl => ?_)
  refine lv_aload_n hx hb dX0_wholeOf_7 rfl (lv_at hl 1 rfl) ?_
  refine lv_lload hx hb dX0_wholeOf_8 (lv_at hl 0 rfl) ?_
  refine pc_V (i := i) (As := [.long (fX0_sizeOf i x1)]) (rest := []) (r := .int (fX0_exponentOf i (fX0_sizeOf i x1))) ⟨hx, hb, hml, hown, hts⟩ (c_X0_exponentOf l ad i hi (fX0_sizeOf i x1)) (cwV 1 hts gX0_wholeOf_X0_exponentOf rfl rfl rfl hd_X0_exponentOf ⟨Nat.le_of_ble_eq_true rfl, Nat.le_of_ble_eq_true rfl⟩) hKC hS hi rfl hl.1 rfl (lv_room (Nat.le_of_ble_eq_true rfl)) dX0_wholeOf_10 ⟨Nat.zero_le _, Nat.zero_le _⟩ ?_
  refine lv_aload_n hx hb dX0_wholeOf_13 rfl (lv_at hl 1 rfl) ?_
  refine pk_bias hx hb hKC hi hS hown (hts (.fieldLink RX0 33 "NeedleBoard$Kind" "bias" "I") (by decide +kernel)) dX0_wholeOf_14 ?_
  refine lv_isub hx hb dX0_wholeOf_17 ?_
  refine lv_topi (fun v18_1 e_v18_1 => ?_)
  refine lv_istore (lv' := [(6, .int v18_1), (4, .long (fX0_sizeOf i x1)), (0, .ref (ad i)), (1, .long x1), (3, .int x3)]) hx hb dX0_wholeOf_18 hl (by decide) rfl (fun ls hl => ?_)
  refine lv_lload hx hb dX0_wholeOf_20 (lv_at hl 1 rfl) ?_
  refine lv_lconst (v := 0) hx hb dX0_wholeOf_22 (by decide) ?_
  refine pl_eq (tgt := 36) hx hb dX0_wholeOf_23 dX0_wholeOf_24 (by decide) (fun c_2 => ?_) (fun c_2 => ?_)
  · refine lv_lload_n hx hb dX0_wholeOf_36 rfl (lv_at hl 3 rfl) ?_
    exact W.lret hx hb hr (fun t ht _ => ⟨congrArg (fun z => Outcome.returned (some (Value.long z))) (by rw [fX0_wholeOf]; dsimp only; rw [if_pos c_2]), ht⟩) (fun _ h => nomatch h) dX0_wholeOf_37
  · refine lv_iload hx hb dX0_wholeOf_27 (lv_at hl 0 rfl) ?_
    refine lv_aload_n hx hb dX0_wholeOf_29 rfl (lv_at hl 2 rfl) ?_
    refine pk_frac hx hb hKC hi hS hown (hts (.fieldLink RX0 29 "NeedleBoard$Kind" "fractionBits" "I") (by decide +kernel)) dX0_wholeOf_30 ?_
    refine lv_icmp_lt (tgt := 38) hx hb dX0_wholeOf_33 (by decide) (fun c_3 => ?_) (fun c_3 => ?_)
    · refine lv_iload hx hb dX0_wholeOf_38 (lv_at hl 0 rfl) ?_
      refine lv_if_ge (tgt := 52) hx hb dX0_wholeOf_40 (by decide) (fun c_4 => ?_) (fun c_4 => ?_)
      · refine lv_aload_n hx hb dX0_wholeOf_52 rfl (lv_at hl 2 rfl) ?_
        refine lv_lload_n hx hb dX0_wholeOf_53 rfl (lv_at hl 3 rfl) ?_
        refine lv_iload_n hx hb dX0_wholeOf_54 rfl (lv_at hl 4 rfl) ?_
        refine lv_aload_n hx hb dX0_wholeOf_55 rfl (lv_at hl 2 rfl) ?_
        refine pk_frac hx hb hKC hi hS hown (hts (.fieldLink RX0 29 "NeedleBoard$Kind" "fractionBits" "I") (by decide +kernel)) dX0_wholeOf_56 ?_
        refine lv_iload hx hb dX0_wholeOf_59 (lv_at hl 0 rfl) ?_
        refine lv_isub hx hb dX0_wholeOf_61 ?_
        refine pc_V (i := i) (As := [.long x1, .int x3, .int ((kFrac i) - v18_1)]) (rest := []) (r := .long (fX0_wholeOfMixed i x1 x3 ((kFrac i) - v18_1))) ⟨hx, hb, hml, hown, hts⟩ (c_X0_wholeOfMixed l ad i hi x1 x3 ((kFrac i) - v18_1)) (cwV 3 hts gX0_wholeOf_X0_wholeOfMixed rfl rfl rfl hd_X0_wholeOfMixed ⟨Nat.le_of_ble_eq_true rfl, Nat.le_of_ble_eq_true rfl⟩) hKC hS hi rfl hl.1 rfl (lv_room (Nat.le_of_ble_eq_true rfl)) dX0_wholeOf_62 ⟨Nat.zero_le _, Nat.zero_le _⟩ ?_
        refine lv_topl (fun v65_5 e_v65_5 => ?_)
        refine lv_lstore (lv' := [(7, .long v65_5), (6, .int v18_1), (4, .long (fX0_sizeOf i x1)), (0, .ref (ad i)), (1, .long x1), (3, .int x3)]) hx hb dX0_wholeOf_65 hl (by decide) rfl (fun ls hl => ?_)
        refine lv_aload_n hx hb dX0_wholeOf_67 rfl (lv_at hl 3 rfl) ?_
        refine lv_lload hx hb dX0_wholeOf_68 (lv_at hl 0 rfl) ?_
        refine lv_lload_n hx hb dX0_wholeOf_70 rfl (lv_at hl 4 rfl) ?_
        refine pc_V (i := i) (As := [.long v65_5, .long x1]) (rest := []) (r := .long (fX0_withSideOf i v65_5 x1)) ⟨hx, hb, hml, hown, hts⟩ (c_X0_withSideOf l ad i hi v65_5 x1) (cwV 2 hts gX0_wholeOf_X0_withSideOf rfl rfl rfl hd_X0_withSideOf ⟨Nat.le_of_ble_eq_true rfl, Nat.le_of_ble_eq_true rfl⟩) hKC hS hi rfl hl.1 rfl (lv_room (Nat.le_of_ble_eq_true rfl)) dX0_wholeOf_71 ⟨Nat.zero_le _, Nat.zero_le _⟩ ?_
        exact W.lret hx hb hr (fun t ht _ => ⟨congrArg (fun z => Outcome.returned (some (Value.long z))) (by subst e_v18_1 e_v65_5; unfold fX0_wholeOf; dsimp only; rw [if_neg c_2, if_pos c_3, if_pos c_4]), ht⟩) (fun _ h => nomatch h) dX0_wholeOf_74
      · refine lv_aload_n hx hb dX0_wholeOf_43 rfl (lv_at hl 2 rfl) ?_
        refine lv_lload_n hx hb dX0_wholeOf_44 rfl (lv_at hl 3 rfl) ?_
        refine lv_iload_n hx hb dX0_wholeOf_45 rfl (lv_at hl 4 rfl) ?_
        refine pc_V (i := i) (As := [.long x1, .int x3]) (rest := []) (r := .long (fX0_wholeOfPart i x1 x3)) ⟨hx, hb, hml, hown, hts⟩ (c_X0_wholeOfPart l ad i hi x1 x3) (cwV 2 hts gX0_wholeOf_X0_wholeOfPart rfl rfl rfl hd_X0_wholeOfPart ⟨Nat.le_of_ble_eq_true rfl, Nat.le_of_ble_eq_true rfl⟩) hKC hS hi rfl hl.1 rfl (lv_room (Nat.le_of_ble_eq_true rfl)) dX0_wholeOf_46 ⟨Nat.zero_le _, Nat.zero_le _⟩ ?_
        refine lv_goto (tgt := 65) hx hb dX0_wholeOf_49 (by decide) ?_
        refine lv_lstore (lv' := [(7, .long (fX0_wholeOfPart i x1 x3)), (6, .int v18_1), (4, .long (fX0_sizeOf i x1)), (0, .ref (ad i)), (1, .long x1), (3, .int x3)]) hx hb dX0_wholeOf_65 hl (by decide) rfl (fun ls hl => ?_)
        refine lv_aload_n hx hb dX0_wholeOf_67 rfl (lv_at hl 3 rfl) ?_
        refine lv_lload hx hb dX0_wholeOf_68 (lv_at hl 0 rfl) ?_
        refine lv_lload_n hx hb dX0_wholeOf_70 rfl (lv_at hl 4 rfl) ?_
        refine pc_V (i := i) (As := [.long (fX0_wholeOfPart i x1 x3), .long x1]) (rest := []) (r := .long (fX0_withSideOf i (fX0_wholeOfPart i x1 x3) x1)) ⟨hx, hb, hml, hown, hts⟩ (c_X0_withSideOf l ad i hi (fX0_wholeOfPart i x1 x3) x1) (cwV 2 hts gX0_wholeOf_X0_withSideOf rfl rfl rfl hd_X0_withSideOf ⟨Nat.le_of_ble_eq_true rfl, Nat.le_of_ble_eq_true rfl⟩) hKC hS hi rfl hl.1 rfl (lv_room (Nat.le_of_ble_eq_true rfl)) dX0_wholeOf_71 ⟨Nat.zero_le _, Nat.zero_le _⟩ ?_
        exact W.lret hx hb hr (fun t ht _ => ⟨congrArg (fun z => Outcome.returned (some (Value.long z))) (by subst e_v18_1; unfold fX0_wholeOf; dsimp only; rw [if_neg c_2, if_pos c_3, if_neg c_4]), ht⟩) (fun _ h => nomatch h) dX0_wholeOf_74
    · refine lv_lload_n hx hb dX0_wholeOf_36 rfl (lv_at hl 3 rfl) ?_
      exact W.lret hx hb hr (fun t ht _ => ⟨congrArg (fun z => Outcome.returned (some (Value.long z))) (by subst e_v18_1; unfold fX0_wholeOf; dsimp only; rw [if_neg c_2, if_neg c_3]), ht⟩) (fun _ h => nomatch h) dX0_wholeOf_37
def fX0_sumByLarger (i : Nat) (x1 : Int64) (x3 : Int64) : Int64 :=
  if (fX0_sizeOf i x1) = (kInf i) then
    x1
  else
    let v42_2 : Int64 := (fX0_significandOf i (fX0_sizeOf i x1)) <<< ((3 : Int32).toInt64 &&& 63)
    let v64_3 : Int64 := fX0_shiftedDown ((fX0_significandOf i (fX0_sizeOf i x3)) <<< ((3 : Int32).toInt64 &&& 63)) ((fX0_exponentOf i (fX0_sizeOf i x1)) - (fX0_exponentOf i (fX0_sizeOf i x3)))
    if (0 : Int64) ≤ x1 then
      if (0 : Int64) ≤ x3 then
        if (v42_2 + v64_3) = (0 : Int64) then
          x1
        else
          fX0_withSideOf i (fX0_sizeFrom i (v42_2 + v64_3) (fX0_exponentOf i (fX0_sizeOf i x1))) x1
      else
        if (v42_2 - v64_3) = (0 : Int64) then
          (0 : Int64)
        else
          fX0_withSideOf i (fX0_sizeFrom i (v42_2 - v64_3) (fX0_exponentOf i (fX0_sizeOf i x1))) x1
    else
      if (0 : Int64) ≤ x3 then
        if (v42_2 - v64_3) = (0 : Int64) then
          (0 : Int64)
        else
          fX0_withSideOf i (fX0_sizeFrom i (v42_2 - v64_3) (fX0_exponentOf i (fX0_sizeOf i x1))) x1
      else
        if (v42_2 + v64_3) = (0 : Int64) then
          x1
        else
          fX0_withSideOf i (fX0_sizeFrom i (v42_2 + v64_3) (fX0_exponentOf i (fX0_sizeOf i x1))) x1
theorem hd_X0_sumByLarger : yX0_sumByLarger.cls = RX0 ∧ yX0_sumByLarger.cls ≠ "java/lang/invoke/MethodHandle" ∧ yX0_sumByLarger.cls ≠ "java/lang/invoke/VarHandle" ∧ (parseMethodDescriptor yX0_sumByLarger.desc).map (fun d => d.parameters.length) = some 2 := by decide +kernel
set_option maxHeartbeats 4000000 in
set_option maxRecDepth 100000 in
theorem c_X0_sumByLarger (l : Launch) (ad : Nat → Nat) (i : Nat) (hi : i < 2) (x1 : Int64) (x3 : Int64) : Met l yX0_sumByLarger wsX0_sumByLarger ({ frames := 3, cells := 0, slots := 0, locals := 77 }) (PK ad [.ref (ad i), .long x1, .long x3]) (k2_QcV (.long (fX0_sumByLarger i x1 x3))) 0 0 (fun _ => False) := by
  refine Met.ofW (cc := cX0_sumByLarger) (maxL := 17) (ret := (some .long)) (by decide) rfl ?_
  intro p e s m args below meth c s₁ B hml hv
  obtain ⟨rfl, hKC⟩ := hv
  have hx := B.exec
  have hb := B.bytes
  have hr := B.returns
  have hts := atoms_spec (ws := wsX0_sumByLarger) B.pre
  have hown : s.vm.findClass RX0 = some m.cls := findClass_of_methodNamed B.named
  have hlocks := B.notSynchronized
  have hS : va_S (fun _ => False) s.heap s.heap [] := va_S.rf
  have hl := lv_entry ([.ref (ad i), .long x1, .long x3]) (n := 17) (Nat.le_of_ble_eq_true rfl)
  rw [lg_entry_eq]
  generalize (lg_sl ([.ref (ad i), .long x1, .long x3]) ++ List.replicate (17 - (lg_sl ([.ref (ad i), .long x1, .long x3])).length) Slot.unset).toArray = ls at hl ⊢
  have hl : lv_has ls 17 [(0, .ref (ad i)), (1, .long x1), (3, .long x3)] := hl
  refine lv_aload_n hx hb dX0_sumByLarger_0 rfl (lv_at hl 0 rfl) ?_
  refine lv_lload_n hx hb dX0_sumByLarger_1 rfl (lv_at hl 1 rfl) ?_
  refine pc_V (i := i) (As := [.long x1]) (rest := []) (r := .long (fX0_sizeOf i x1)) ⟨hx, hb, hml, hown, hts⟩ (c_X0_sizeOf l ad i hi x1) (cwV 1 hts gX0_sumByLarger_X0_sizeOf rfl rfl rfl hd_X0_sizeOf ⟨Nat.le_of_ble_eq_true rfl, Nat.le_of_ble_eq_true rfl⟩) hKC hS hi rfl hl.1 rfl (lv_room (Nat.le_of_ble_eq_true rfl)) dX0_sumByLarger_2 ⟨Nat.zero_le _, Nat.zero_le _⟩ ?_
  refine lv_lstore (lv' := [(5, .long (fX0_sizeOf i x1)), (0, .ref (ad i)), (1, .long x1), (3, .long x3)]) hx hb dX0_sumByLarger_5 hl (by decide) rfl (fun ls hl => ?_)
  refine lv_lload hx hb dX0_sumByLarger_7 (lv_at hl 0 rfl) ?_
  refine lv_aload_n hx hb dX0_sumByLarger_9 rfl (lv_at hl 1 rfl) ?_
  refine pk_inf hx hb hKC hi hS hown (hts (.fieldLink RX0 48 "NeedleBoard$Kind" "infinity" "J") (by decide +kernel)) dX0_sumByLarger_10 ?_
  refine pl_ne (tgt := 19) hx hb dX0_sumByLarger_13 dX0_sumByLarger_14 (by decide) (fun c_1 => ?_) (fun c_1 => ?_)
  · refine lv_aload_n hx hb dX0_sumByLarger_19 rfl (lv_at hl 1 rfl) ?_
    refine lv_lload_n hx hb dX0_sumByLarger_20 rfl (lv_at hl 3 rfl) ?_
    refine pc_V (i := i) (As := [.long x3]) (rest := []) (r := .long (fX0_sizeOf i x3)) ⟨hx, hb, hml, hown, hts⟩ (c_X0_sizeOf l ad i hi x3) (cwV 1 hts gX0_sumByLarger_X0_sizeOf rfl rfl rfl hd_X0_sizeOf ⟨Nat.le_of_ble_eq_true rfl, Nat.le_of_ble_eq_true rfl⟩) hKC hS hi rfl hl.1 rfl (lv_room (Nat.le_of_ble_eq_true rfl)) dX0_sumByLarger_21 ⟨Nat.zero_le _, Nat.zero_le _⟩ ?_
    refine lv_lstore (lv' := [(7, .long (fX0_sizeOf i x3)), (5, .long (fX0_sizeOf i x1)), (0, .ref (ad i)), (1, .long x1), (3, .long x3)]) hx hb dX0_sumByLarger_24 hl (by decide) rfl (fun ls hl => ?_)
    refine lv_aload_n hx hb dX0_sumByLarger_26 rfl (lv_at hl 2 rfl) ?_
    refine lv_lload hx hb dX0_sumByLarger_27 (lv_at hl 1 rfl) ?_
    refine pc_V (i := i) (As := [.long (fX0_sizeOf i x1)]) (rest := []) (r := .int (fX0_exponentOf i (fX0_sizeOf i x1))) ⟨hx, hb, hml, hown, hts⟩ (c_X0_exponentOf l ad i hi (fX0_sizeOf i x1)) (cwV 1 hts gX0_sumByLarger_X0_exponentOf rfl rfl rfl hd_X0_exponentOf ⟨Nat.le_of_ble_eq_true rfl, Nat.le_of_ble_eq_true rfl⟩) hKC hS hi rfl hl.1 rfl (lv_room (Nat.le_of_ble_eq_true rfl)) dX0_sumByLarger_29 ⟨Nat.zero_le _, Nat.zero_le _⟩ ?_
    refine lv_istore (lv' := [(9, .int (fX0_exponentOf i (fX0_sizeOf i x1))), (7, .long (fX0_sizeOf i x3)), (5, .long (fX0_sizeOf i x1)), (0, .ref (ad i)), (1, .long x1), (3, .long x3)]) hx hb dX0_sumByLarger_32 hl (by decide) rfl (fun ls hl => ?_)
    refine lv_aload_n hx hb dX0_sumByLarger_34 rfl (lv_at hl 3 rfl) ?_
    refine lv_lload hx hb dX0_sumByLarger_35 (lv_at hl 2 rfl) ?_
    refine pc_V (i := i) (As := [.long (fX0_sizeOf i x1)]) (rest := []) (r := .long (fX0_significandOf i (fX0_sizeOf i x1))) ⟨hx, hb, hml, hown, hts⟩ (c_X0_significandOf l ad i hi (fX0_sizeOf i x1)) (cwV 1 hts gX0_sumByLarger_X0_significandOf rfl rfl rfl hd_X0_significandOf ⟨Nat.le_of_ble_eq_true rfl, Nat.le_of_ble_eq_true rfl⟩) hKC hS hi rfl hl.1 rfl (lv_room (Nat.le_of_ble_eq_true rfl)) dX0_sumByLarger_37 ⟨Nat.zero_le _, Nat.zero_le _⟩ ?_
    refine lv_iconst (v := 3) hx hb dX0_sumByLarger_40 (by decide) ?_
    refine lv_lshl hx hb dX0_sumByLarger_41 rfl ?_
    refine lv_topl (fun v42_2 e_v42_2 => ?_)
    refine lv_lstore (lv' := [(10, .long v42_2), (9, .int (fX0_exponentOf i (fX0_sizeOf i x1))), (7, .long (fX0_sizeOf i x3)), (5, .long (fX0_sizeOf i x1)), (0, .ref (ad i)), (1, .long x1), (3, .long x3)]) hx hb dX0_sumByLarger_42 hl (by decide) rfl (fun ls hl => ?_)
    refine lv_aload_n hx hb dX0_sumByLarger_44 rfl (lv_at hl 4 rfl) ?_
    refine lv_lload hx hb dX0_sumByLarger_45 (lv_at hl 2 rfl) ?_
    refine pc_V (i := i) (As := [.long (fX0_sizeOf i x3)]) (rest := []) (r := .long (fX0_significandOf i (fX0_sizeOf i x3))) ⟨hx, hb, hml, hown, hts⟩ (c_X0_significandOf l ad i hi (fX0_sizeOf i x3)) (cwV 1 hts gX0_sumByLarger_X0_significandOf rfl rfl rfl hd_X0_significandOf ⟨Nat.le_of_ble_eq_true rfl, Nat.le_of_ble_eq_true rfl⟩) hKC hS hi rfl hl.1 rfl (lv_room (Nat.le_of_ble_eq_true rfl)) dX0_sumByLarger_47 ⟨Nat.zero_le _, Nat.zero_le _⟩ ?_
    refine lv_iconst (v := 3) hx hb dX0_sumByLarger_50 (by decide) ?_
    refine lv_lshl hx hb dX0_sumByLarger_51 rfl ?_
    refine lv_iload hx hb dX0_sumByLarger_52 (lv_at hl 1 rfl) ?_
    refine lv_aload_n hx hb dX0_sumByLarger_54 rfl (lv_at hl 4 rfl) ?_
    refine lv_lload hx hb dX0_sumByLarger_55 (lv_at hl 2 rfl) ?_
    refine pc_V (i := i) (As := [.long (fX0_sizeOf i x3)]) (rest := [.int (fX0_exponentOf i (fX0_sizeOf i x1)), .long ((fX0_significandOf i (fX0_sizeOf i x3)) <<< ((3 : Int32).toInt64 &&& 63))]) (r := .int (fX0_exponentOf i (fX0_sizeOf i x3))) ⟨hx, hb, hml, hown, hts⟩ (c_X0_exponentOf l ad i hi (fX0_sizeOf i x3)) (cwV 1 hts gX0_sumByLarger_X0_exponentOf rfl rfl rfl hd_X0_exponentOf ⟨Nat.le_of_ble_eq_true rfl, Nat.le_of_ble_eq_true rfl⟩) hKC hS hi rfl hl.1 rfl (lv_room (Nat.le_of_ble_eq_true rfl)) dX0_sumByLarger_57 ⟨Nat.zero_le _, Nat.zero_le _⟩ ?_
    refine lv_isub hx hb dX0_sumByLarger_60 ?_
    refine pc_0 (As := [.long ((fX0_significandOf i (fX0_sizeOf i x3)) <<< ((3 : Int32).toInt64 &&& 63)), .int ((fX0_exponentOf i (fX0_sizeOf i x1)) - (fX0_exponentOf i (fX0_sizeOf i x3)))]) (rest := []) (r := .long (fX0_shiftedDown ((fX0_significandOf i (fX0_sizeOf i x3)) <<< ((3 : Int32).toInt64 &&& 63)) ((fX0_exponentOf i (fX0_sizeOf i x1)) - (fX0_exponentOf i (fX0_sizeOf i x3))))) ⟨hx, hb, hml, hown, hts⟩ (c_X0_shiftedDown l ((fX0_significandOf i (fX0_sizeOf i x3)) <<< ((3 : Int32).toInt64 &&& 63)) ((fX0_exponentOf i (fX0_sizeOf i x1)) - (fX0_exponentOf i (fX0_sizeOf i x3)))) (va_cwS 2 hts gX0_sumByLarger_X0_shiftedDown rfl rfl rfl hd_X0_shiftedDown ⟨Nat.le_of_ble_eq_true rfl, Nat.le_of_ble_eq_true rfl⟩) rfl hl.1 rfl (lv_room (Nat.le_of_ble_eq_true rfl)) dX0_sumByLarger_61 ⟨Nat.zero_le _, Nat.zero_le _⟩ ?_
    refine lv_topl (fun v64_3 e_v64_3 => ?_)
    refine lv_lstore (lv' := [(12, .long v64_3), (10, .long v42_2), (9, .int (fX0_exponentOf i (fX0_sizeOf i x1))), (7, .long (fX0_sizeOf i x3)), (5, .long (fX0_sizeOf i x1)), (0, .ref (ad i)), (1, .long x1), (3, .long x3)]) hx hb dX0_sumByLarger_64 hl (by decide) rfl (fun ls hl => ?_)
    refine lv_lload_n hx hb dX0_sumByLarger_66 rfl (lv_at hl 6 rfl) ?_
    refine lv_lconst (v := 0) hx hb dX0_sumByLarger_67 (by decide) ?_
    refine pl_ge (tgt := 76) hx hb dX0_sumByLarger_68 dX0_sumByLarger_69 (by decide) (fun c_4 => ?_) (fun c_4 => ?_)
    · refine lv_iconst (v := 0) hx hb dX0_sumByLarger_76 (by decide) ?_
      refine lv_lload_n hx hb dX0_sumByLarger_77 rfl (lv_at hl 7 rfl) ?_
      refine lv_lconst (v := 0) hx hb dX0_sumByLarger_78 (by decide) ?_
      refine pl_ge (tgt := 87) hx hb dX0_sumByLarger_79 dX0_sumByLarger_80 (by decide) (fun c_5 => ?_) (fun c_5 => ?_)
      · refine lv_iconst (v := 0) hx hb dX0_sumByLarger_87 (by decide) ?_
        refine lv_icmp_ne (tgt := 95) hx hb dX0_sumByLarger_88 (by decide) (fun h9 => absurd h9 (by decide)) (fun _ => ?_)
        refine lv_iconst (v := 1) hx hb dX0_sumByLarger_91 (by decide) ?_
        refine lv_goto (tgt := 96) hx hb dX0_sumByLarger_92 (by decide) ?_
        refine lv_istore (lv' := [(14, .int (1 : Int32)), (12, .long v64_3), (10, .long v42_2), (9, .int (fX0_exponentOf i (fX0_sizeOf i x1))), (7, .long (fX0_sizeOf i x3)), (5, .long (fX0_sizeOf i x1)), (0, .ref (ad i)), (1, .long x1), (3, .long x3)]) hx hb dX0_sumByLarger_96 hl (by decide) rfl (fun ls hl => ?_)
        refine lv_iload hx hb dX0_sumByLarger_98 (lv_at hl 0 rfl) ?_
        refine lv_if_eq (tgt := 111) hx hb dX0_sumByLarger_100 (by decide) (fun h9 => absurd h9 (by decide)) (fun _ => ?_)
        refine lv_lload hx hb dX0_sumByLarger_103 (lv_at hl 2 rfl) ?_
        refine lv_lload hx hb dX0_sumByLarger_105 (lv_at hl 1 rfl) ?_
        refine lv_ladd hx hb dX0_sumByLarger_107 ?_
        refine lv_goto (tgt := 116) hx hb dX0_sumByLarger_108 (by decide) ?_
        refine lv_lstore (lv' := [(15, .long (v42_2 + v64_3)), (14, .int (1 : Int32)), (12, .long v64_3), (10, .long v42_2), (9, .int (fX0_exponentOf i (fX0_sizeOf i x1))), (7, .long (fX0_sizeOf i x3)), (5, .long (fX0_sizeOf i x1)), (0, .ref (ad i)), (1, .long x1), (3, .long x3)]) hx hb dX0_sumByLarger_116 hl (by decide) rfl (fun ls hl => ?_)
        refine lv_lload hx hb dX0_sumByLarger_118 (lv_at hl 0 rfl) ?_
        refine lv_lconst (v := 0) hx hb dX0_sumByLarger_120 (by decide) ?_
        refine pl_ne (tgt := 136) hx hb dX0_sumByLarger_121 dX0_sumByLarger_122 (by decide) (fun c_6 => ?_) (fun c_6 => ?_)
        · refine lv_aload_n hx hb dX0_sumByLarger_136 rfl (lv_at hl 7 rfl) ?_
          refine lv_aload_n hx hb dX0_sumByLarger_137 rfl (lv_at hl 7 rfl) ?_
          refine lv_lload hx hb dX0_sumByLarger_138 (lv_at hl 0 rfl) ?_
          refine lv_iload hx hb dX0_sumByLarger_140 (lv_at hl 4 rfl) ?_
          refine pc_V (i := i) (As := [.long (v42_2 + v64_3), .int (fX0_exponentOf i (fX0_sizeOf i x1))]) (rest := [.ref (ad i)]) (r := .long (fX0_sizeFrom i (v42_2 + v64_3) (fX0_exponentOf i (fX0_sizeOf i x1)))) ⟨hx, hb, hml, hown, hts⟩ (c_X0_sizeFrom l ad i hi (v42_2 + v64_3) (fX0_exponentOf i (fX0_sizeOf i x1))) (cwV 2 hts gX0_sumByLarger_X0_sizeFrom rfl rfl rfl hd_X0_sizeFrom ⟨Nat.le_of_ble_eq_true rfl, Nat.le_of_ble_eq_true rfl⟩) hKC hS hi rfl hl.1 rfl (lv_room (Nat.le_of_ble_eq_true rfl)) dX0_sumByLarger_142 ⟨Nat.zero_le _, Nat.zero_le _⟩ ?_
          refine lv_lload_n hx hb dX0_sumByLarger_145 rfl (lv_at hl 8 rfl) ?_
          refine pc_V (i := i) (As := [.long (fX0_sizeFrom i (v42_2 + v64_3) (fX0_exponentOf i (fX0_sizeOf i x1))), .long x1]) (rest := []) (r := .long (fX0_withSideOf i (fX0_sizeFrom i (v42_2 + v64_3) (fX0_exponentOf i (fX0_sizeOf i x1))) x1)) ⟨hx, hb, hml, hown, hts⟩ (c_X0_withSideOf l ad i hi (fX0_sizeFrom i (v42_2 + v64_3) (fX0_exponentOf i (fX0_sizeOf i x1))) x1) (cwV 2 hts gX0_sumByLarger_X0_withSideOf rfl rfl rfl hd_X0_withSideOf ⟨Nat.le_of_ble_eq_true rfl, Nat.le_of_ble_eq_true rfl⟩) hKC hS hi rfl hl.1 rfl (lv_room (Nat.le_of_ble_eq_true rfl)) dX0_sumByLarger_146 ⟨Nat.zero_le _, Nat.zero_le _⟩ ?_
          exact W.lret hx hb hr (fun t ht _ => ⟨congrArg (fun z => Outcome.returned (some (Value.long z))) (by subst e_v42_2 e_v64_3; unfold fX0_sumByLarger; dsimp only; rw [if_neg c_1, if_pos c_4, if_pos c_5, if_neg c_6]), ht⟩) (fun _ h => nomatch h) dX0_sumByLarger_149
        · refine lv_iload hx hb dX0_sumByLarger_125 (lv_at hl 1 rfl) ?_
          refine lv_if_eq (tgt := 134) hx hb dX0_sumByLarger_127 (by decide) (fun h9 => absurd h9 (by decide)) (fun _ => ?_)
          refine lv_lload_n hx hb dX0_sumByLarger_130 rfl (lv_at hl 8 rfl) ?_
          refine lv_goto (tgt := 135) hx hb dX0_sumByLarger_131 (by decide) ?_
          exact W.lret hx hb hr (fun t ht _ => ⟨congrArg (fun z => Outcome.returned (some (Value.long z))) (by subst e_v42_2 e_v64_3; unfold fX0_sumByLarger; dsimp only; rw [if_neg c_1, if_pos c_4, if_pos c_5, if_pos c_6]), ht⟩) (fun _ h => nomatch h) dX0_sumByLarger_135
      · refine lv_iconst (v := 1) hx hb dX0_sumByLarger_83 (by decide) ?_
        refine lv_goto (tgt := 88) hx hb dX0_sumByLarger_84 (by decide) ?_
        refine lv_icmp_ne (tgt := 95) hx hb dX0_sumByLarger_88 (by decide) (fun _ => ?_) (fun h9 => absurd h9 (by decide))
        refine lv_iconst (v := 0) hx hb dX0_sumByLarger_95 (by decide) ?_
        refine lv_istore (lv' := [(14, .int (0 : Int32)), (12, .long v64_3), (10, .long v42_2), (9, .int (fX0_exponentOf i (fX0_sizeOf i x1))), (7, .long (fX0_sizeOf i x3)), (5, .long (fX0_sizeOf i x1)), (0, .ref (ad i)), (1, .long x1), (3, .long x3)]) hx hb dX0_sumByLarger_96 hl (by decide) rfl (fun ls hl => ?_)
        refine lv_iload hx hb dX0_sumByLarger_98 (lv_at hl 0 rfl) ?_
        refine lv_if_eq (tgt := 111) hx hb dX0_sumByLarger_100 (by decide) (fun _ => ?_) (fun h9 => absurd h9 (by decide))
        refine lv_lload hx hb dX0_sumByLarger_111 (lv_at hl 2 rfl) ?_
        refine lv_lload hx hb dX0_sumByLarger_113 (lv_at hl 1 rfl) ?_
        refine lv_lsub hx hb dX0_sumByLarger_115 ?_
        refine lv_lstore (lv' := [(15, .long (v42_2 - v64_3)), (14, .int (0 : Int32)), (12, .long v64_3), (10, .long v42_2), (9, .int (fX0_exponentOf i (fX0_sizeOf i x1))), (7, .long (fX0_sizeOf i x3)), (5, .long (fX0_sizeOf i x1)), (0, .ref (ad i)), (1, .long x1), (3, .long x3)]) hx hb dX0_sumByLarger_116 hl (by decide) rfl (fun ls hl => ?_)
        refine lv_lload hx hb dX0_sumByLarger_118 (lv_at hl 0 rfl) ?_
        refine lv_lconst (v := 0) hx hb dX0_sumByLarger_120 (by decide) ?_
        refine pl_ne (tgt := 136) hx hb dX0_sumByLarger_121 dX0_sumByLarger_122 (by decide) (fun c_7 => ?_) (fun c_7 => ?_)
        · refine lv_aload_n hx hb dX0_sumByLarger_136 rfl (lv_at hl 7 rfl) ?_
          refine lv_aload_n hx hb dX0_sumByLarger_137 rfl (lv_at hl 7 rfl) ?_
          refine lv_lload hx hb dX0_sumByLarger_138 (lv_at hl 0 rfl) ?_
          refine lv_iload hx hb dX0_sumByLarger_140 (lv_at hl 4 rfl) ?_
          refine pc_V (i := i) (As := [.long (v42_2 - v64_3), .int (fX0_exponentOf i (fX0_sizeOf i x1))]) (rest := [.ref (ad i)]) (r := .long (fX0_sizeFrom i (v42_2 - v64_3) (fX0_exponentOf i (fX0_sizeOf i x1)))) ⟨hx, hb, hml, hown, hts⟩ (c_X0_sizeFrom l ad i hi (v42_2 - v64_3) (fX0_exponentOf i (fX0_sizeOf i x1))) (cwV 2 hts gX0_sumByLarger_X0_sizeFrom rfl rfl rfl hd_X0_sizeFrom ⟨Nat.le_of_ble_eq_true rfl, Nat.le_of_ble_eq_true rfl⟩) hKC hS hi rfl hl.1 rfl (lv_room (Nat.le_of_ble_eq_true rfl)) dX0_sumByLarger_142 ⟨Nat.zero_le _, Nat.zero_le _⟩ ?_
          refine lv_lload_n hx hb dX0_sumByLarger_145 rfl (lv_at hl 8 rfl) ?_
          refine pc_V (i := i) (As := [.long (fX0_sizeFrom i (v42_2 - v64_3) (fX0_exponentOf i (fX0_sizeOf i x1))), .long x1]) (rest := []) (r := .long (fX0_withSideOf i (fX0_sizeFrom i (v42_2 - v64_3) (fX0_exponentOf i (fX0_sizeOf i x1))) x1)) ⟨hx, hb, hml, hown, hts⟩ (c_X0_withSideOf l ad i hi (fX0_sizeFrom i (v42_2 - v64_3) (fX0_exponentOf i (fX0_sizeOf i x1))) x1) (cwV 2 hts gX0_sumByLarger_X0_withSideOf rfl rfl rfl hd_X0_withSideOf ⟨Nat.le_of_ble_eq_true rfl, Nat.le_of_ble_eq_true rfl⟩) hKC hS hi rfl hl.1 rfl (lv_room (Nat.le_of_ble_eq_true rfl)) dX0_sumByLarger_146 ⟨Nat.zero_le _, Nat.zero_le _⟩ ?_
          exact W.lret hx hb hr (fun t ht _ => ⟨congrArg (fun z => Outcome.returned (some (Value.long z))) (by subst e_v42_2 e_v64_3; unfold fX0_sumByLarger; dsimp only; rw [if_neg c_1, if_pos c_4, if_neg c_5, if_neg c_7]), ht⟩) (fun _ h => nomatch h) dX0_sumByLarger_149
        · refine lv_iload hx hb dX0_sumByLarger_125 (lv_at hl 1 rfl) ?_
          refine lv_if_eq (tgt := 134) hx hb dX0_sumByLarger_127 (by decide) (fun _ => ?_) (fun h9 => absurd h9 (by decide))
          refine lv_lconst (v := 0) hx hb dX0_sumByLarger_134 (by decide) ?_
          exact W.lret hx hb hr (fun t ht _ => ⟨congrArg (fun z => Outcome.returned (some (Value.long z))) (by subst e_v42_2 e_v64_3; unfold fX0_sumByLarger; dsimp only; rw [if_neg c_1, if_pos c_4, if_neg c_5, if_pos c_7]), ht⟩) (fun _ h => nomatch h) dX0_sumByLarger_135
    · refine lv_iconst (v := 1) hx hb dX0_sumByLarger_72 (by decide) ?_
      refine lv_goto (tgt := 77) hx hb dX0_sumByLarger_73 (by decide) ?_
      refine lv_lload_n hx hb dX0_sumByLarger_77 rfl (lv_at hl 7 rfl) ?_
      refine lv_lconst (v := 0) hx hb dX0_sumByLarger_78 (by decide) ?_
      refine pl_ge (tgt := 87) hx hb dX0_sumByLarger_79 dX0_sumByLarger_80 (by decide) (fun c_8 => ?_) (fun c_8 => ?_)
      · refine lv_iconst (v := 0) hx hb dX0_sumByLarger_87 (by decide) ?_
        refine lv_icmp_ne (tgt := 95) hx hb dX0_sumByLarger_88 (by decide) (fun _ => ?_) (fun h9 => absurd h9 (by decide))
        refine lv_iconst (v := 0) hx hb dX0_sumByLarger_95 (by decide) ?_
        refine lv_istore (lv' := [(14, .int (0 : Int32)), (12, .long v64_3), (10, .long v42_2), (9, .int (fX0_exponentOf i (fX0_sizeOf i x1))), (7, .long (fX0_sizeOf i x3)), (5, .long (fX0_sizeOf i x1)), (0, .ref (ad i)), (1, .long x1), (3, .long x3)]) hx hb dX0_sumByLarger_96 hl (by decide) rfl (fun ls hl => ?_)
        refine lv_iload hx hb dX0_sumByLarger_98 (lv_at hl 0 rfl) ?_
        refine lv_if_eq (tgt := 111) hx hb dX0_sumByLarger_100 (by decide) (fun _ => ?_) (fun h9 => absurd h9 (by decide))
        refine lv_lload hx hb dX0_sumByLarger_111 (lv_at hl 2 rfl) ?_
        refine lv_lload hx hb dX0_sumByLarger_113 (lv_at hl 1 rfl) ?_
        refine lv_lsub hx hb dX0_sumByLarger_115 ?_
        refine lv_lstore (lv' := [(15, .long (v42_2 - v64_3)), (14, .int (0 : Int32)), (12, .long v64_3), (10, .long v42_2), (9, .int (fX0_exponentOf i (fX0_sizeOf i x1))), (7, .long (fX0_sizeOf i x3)), (5, .long (fX0_sizeOf i x1)), (0, .ref (ad i)), (1, .long x1), (3, .long x3)]) hx hb dX0_sumByLarger_116 hl (by decide) rfl (fun ls hl => ?_)
        refine lv_lload hx hb dX0_sumByLarger_118 (lv_at hl 0 rfl) ?_
        refine lv_lconst (v := 0) hx hb dX0_sumByLarger_120 (by decide) ?_
        refine pl_ne (tgt := 136) hx hb dX0_sumByLarger_121 dX0_sumByLarger_122 (by decide) (fun c_9 => ?_) (fun c_9 => ?_)
        · refine lv_aload_n hx hb dX0_sumByLarger_136 rfl (lv_at hl 7 rfl) ?_
          refine lv_aload_n hx hb dX0_sumByLarger_137 rfl (lv_at hl 7 rfl) ?_
          refine lv_lload hx hb dX0_sumByLarger_138 (lv_at hl 0 rfl) ?_
          refine lv_iload hx hb dX0_sumByLarger_140 (lv_at hl 4 rfl) ?_
          refine pc_V (i := i) (As := [.long (v42_2 - v64_3), .int (fX0_exponentOf i (fX0_sizeOf i x1))]) (rest := [.ref (ad i)]) (r := .long (fX0_sizeFrom i (v42_2 - v64_3) (fX0_exponentOf i (fX0_sizeOf i x1)))) ⟨hx, hb, hml, hown, hts⟩ (c_X0_sizeFrom l ad i hi (v42_2 - v64_3) (fX0_exponentOf i (fX0_sizeOf i x1))) (cwV 2 hts gX0_sumByLarger_X0_sizeFrom rfl rfl rfl hd_X0_sizeFrom ⟨Nat.le_of_ble_eq_true rfl, Nat.le_of_ble_eq_true rfl⟩) hKC hS hi rfl hl.1 rfl (lv_room (Nat.le_of_ble_eq_true rfl)) dX0_sumByLarger_142 ⟨Nat.zero_le _, Nat.zero_le _⟩ ?_
          refine lv_lload_n hx hb dX0_sumByLarger_145 rfl (lv_at hl 8 rfl) ?_
          refine pc_V (i := i) (As := [.long (fX0_sizeFrom i (v42_2 - v64_3) (fX0_exponentOf i (fX0_sizeOf i x1))), .long x1]) (rest := []) (r := .long (fX0_withSideOf i (fX0_sizeFrom i (v42_2 - v64_3) (fX0_exponentOf i (fX0_sizeOf i x1))) x1)) ⟨hx, hb, hml, hown, hts⟩ (c_X0_withSideOf l ad i hi (fX0_sizeFrom i (v42_2 - v64_3) (fX0_exponentOf i (fX0_sizeOf i x1))) x1) (cwV 2 hts gX0_sumByLarger_X0_withSideOf rfl rfl rfl hd_X0_withSideOf ⟨Nat.le_of_ble_eq_true rfl, Nat.le_of_ble_eq_true rfl⟩) hKC hS hi rfl hl.1 rfl (lv_room (Nat.le_of_ble_eq_true rfl)) dX0_sumByLarger_146 ⟨Nat.zero_le _, Nat.zero_le _⟩ ?_
          exact W.lret hx hb hr (fun t ht _ => ⟨congrArg (fun z => Outcome.returned (some (Value.long z))) (by subst e_v42_2 e_v64_3; unfold fX0_sumByLarger; dsimp only; rw [if_neg c_1, if_neg c_4, if_pos c_8, if_neg c_9]), ht⟩) (fun _ h => nomatch h) dX0_sumByLarger_149
        · refine lv_iload hx hb dX0_sumByLarger_125 (lv_at hl 1 rfl) ?_
          refine lv_if_eq (tgt := 134) hx hb dX0_sumByLarger_127 (by decide) (fun _ => ?_) (fun h9 => absurd h9 (by decide))
          refine lv_lconst (v := 0) hx hb dX0_sumByLarger_134 (by decide) ?_
          exact W.lret hx hb hr (fun t ht _ => ⟨congrArg (fun z => Outcome.returned (some (Value.long z))) (by subst e_v42_2 e_v64_3; unfold fX0_sumByLarger; dsimp only; rw [if_neg c_1, if_neg c_4, if_pos c_8, if_pos c_9]), ht⟩) (fun _ h => nomatch h) dX0_sumByLarger_135
      · refine lv_iconst (v := 1) hx hb dX0_sumByLarger_83 (by decide) ?_
        refine lv_goto (tgt := 88) hx hb dX0_sumByLarger_84 (by decide) ?_
        refine lv_icmp_ne (tgt := 95) hx hb dX0_sumByLarger_88 (by decide) (fun h9 => absurd h9 (by decide)) (fun _ => ?_)
        refine lv_iconst (v := 1) hx hb dX0_sumByLarger_91 (by decide) ?_
        refine lv_goto (tgt := 96) hx hb dX0_sumByLarger_92 (by decide) ?_
        refine lv_istore (lv' := [(14, .int (1 : Int32)), (12, .long v64_3), (10, .long v42_2), (9, .int (fX0_exponentOf i (fX0_sizeOf i x1))), (7, .long (fX0_sizeOf i x3)), (5, .long (fX0_sizeOf i x1)), (0, .ref (ad i)), (1, .long x1), (3, .long x3)]) hx hb dX0_sumByLarger_96 hl (by decide) rfl (fun ls hl => ?_)
        refine lv_iload hx hb dX0_sumByLarger_98 (lv_at hl 0 rfl) ?_
        refine lv_if_eq (tgt := 111) hx hb dX0_sumByLarger_100 (by decide) (fun h9 => absurd h9 (by decide)) (fun _ => ?_)
        refine lv_lload hx hb dX0_sumByLarger_103 (lv_at hl 2 rfl) ?_
        refine lv_lload hx hb dX0_sumByLarger_105 (lv_at hl 1 rfl) ?_
        refine lv_ladd hx hb dX0_sumByLarger_107 ?_
        refine lv_goto (tgt := 116) hx hb dX0_sumByLarger_108 (by decide) ?_
        refine lv_lstore (lv' := [(15, .long (v42_2 + v64_3)), (14, .int (1 : Int32)), (12, .long v64_3), (10, .long v42_2), (9, .int (fX0_exponentOf i (fX0_sizeOf i x1))), (7, .long (fX0_sizeOf i x3)), (5, .long (fX0_sizeOf i x1)), (0, .ref (ad i)), (1, .long x1), (3, .long x3)]) hx hb dX0_sumByLarger_116 hl (by decide) rfl (fun ls hl => ?_)
        refine lv_lload hx hb dX0_sumByLarger_118 (lv_at hl 0 rfl) ?_
        refine lv_lconst (v := 0) hx hb dX0_sumByLarger_120 (by decide) ?_
        refine pl_ne (tgt := 136) hx hb dX0_sumByLarger_121 dX0_sumByLarger_122 (by decide) (fun c_10 => ?_) (fun c_10 => ?_)
        · refine lv_aload_n hx hb dX0_sumByLarger_136 rfl (lv_at hl 7 rfl) ?_
          refine lv_aload_n hx hb dX0_sumByLarger_137 rfl (lv_at hl 7 rfl) ?_
          refine lv_lload hx hb dX0_sumByLarger_138 (lv_at hl 0 rfl) ?_
          refine lv_iload hx hb dX0_sumByLarger_140 (lv_at hl 4 rfl) ?_
          refine pc_V (i := i) (As := [.long (v42_2 + v64_3), .int (fX0_exponentOf i (fX0_sizeOf i x1))]) (rest := [.ref (ad i)]) (r := .long (fX0_sizeFrom i (v42_2 + v64_3) (fX0_exponentOf i (fX0_sizeOf i x1)))) ⟨hx, hb, hml, hown, hts⟩ (c_X0_sizeFrom l ad i hi (v42_2 + v64_3) (fX0_exponentOf i (fX0_sizeOf i x1))) (cwV 2 hts gX0_sumByLarger_X0_sizeFrom rfl rfl rfl hd_X0_sizeFrom ⟨Nat.le_of_ble_eq_true rfl, Nat.le_of_ble_eq_true rfl⟩) hKC hS hi rfl hl.1 rfl (lv_room (Nat.le_of_ble_eq_true rfl)) dX0_sumByLarger_142 ⟨Nat.zero_le _, Nat.zero_le _⟩ ?_
          refine lv_lload_n hx hb dX0_sumByLarger_145 rfl (lv_at hl 8 rfl) ?_
          refine pc_V (i := i) (As := [.long (fX0_sizeFrom i (v42_2 + v64_3) (fX0_exponentOf i (fX0_sizeOf i x1))), .long x1]) (rest := []) (r := .long (fX0_withSideOf i (fX0_sizeFrom i (v42_2 + v64_3) (fX0_exponentOf i (fX0_sizeOf i x1))) x1)) ⟨hx, hb, hml, hown, hts⟩ (c_X0_withSideOf l ad i hi (fX0_sizeFrom i (v42_2 + v64_3) (fX0_exponentOf i (fX0_sizeOf i x1))) x1) (cwV 2 hts gX0_sumByLarger_X0_withSideOf rfl rfl rfl hd_X0_withSideOf ⟨Nat.le_of_ble_eq_true rfl, Nat.le_of_ble_eq_true rfl⟩) hKC hS hi rfl hl.1 rfl (lv_room (Nat.le_of_ble_eq_true rfl)) dX0_sumByLarger_146 ⟨Nat.zero_le _, Nat.zero_le _⟩ ?_
          exact W.lret hx hb hr (fun t ht _ => ⟨congrArg (fun z => Outcome.returned (some (Value.long z))) (by subst e_v42_2 e_v64_3; unfold fX0_sumByLarger; dsimp only; rw [if_neg c_1, if_neg c_4, if_neg c_8, if_neg c_10]), ht⟩) (fun _ h => nomatch h) dX0_sumByLarger_149
        · refine lv_iload hx hb dX0_sumByLarger_125 (lv_at hl 1 rfl) ?_
          refine lv_if_eq (tgt := 134) hx hb dX0_sumByLarger_127 (by decide) (fun h9 => absurd h9 (by decide)) (fun _ => ?_)
          refine lv_lload_n hx hb dX0_sumByLarger_130 rfl (lv_at hl 8 rfl) ?_
          refine lv_goto (tgt := 135) hx hb dX0_sumByLarger_131 (by decide) ?_
          exact W.lret hx hb hr (fun t ht _ => ⟨congrArg (fun z => Outcome.returned (some (Value.long z))) (by subst e_v42_2 e_v64_3; unfold fX0_sumByLarger; dsimp only; rw [if_neg c_1, if_neg c_4, if_neg c_8, if_pos c_10]), ht⟩) (fun _ h => nomatch h) dX0_sumByLarger_135
  · refine lv_lload_n hx hb dX0_sumByLarger_17 rfl (lv_at hl 2 rfl) ?_
    exact W.lret hx hb hr (fun t ht _ => ⟨congrArg (fun z => Outcome.returned (some (Value.long z))) (by unfold fX0_sumByLarger; rw [if_pos c_1]), ht⟩) (fun _ h => nomatch h) dX0_sumByLarger_18
def fX0_sum (i : Nat) (x1 : Int64) (x3 : Int64) : Int64 :=
  if (fX0_sizeOf i x3) ≤ (fX0_sizeOf i x1) then
    fX0_sumByLarger i x1 x3
  else
    fX0_sumByLarger i x3 x1
theorem hd_X0_sum : yX0_sum.cls = RX0 ∧ yX0_sum.cls ≠ "java/lang/invoke/MethodHandle" ∧ yX0_sum.cls ≠ "java/lang/invoke/VarHandle" ∧ (parseMethodDescriptor yX0_sum.desc).map (fun d => d.parameters.length) = some 2 := by decide +kernel
set_option maxHeartbeats 4000000 in
set_option maxRecDepth 100000 in
theorem c_X0_sum (l : Launch) (ad : Nat → Nat) (i : Nat) (hi : i < 2) (x1 : Int64) (x3 : Int64) : Met l yX0_sum wsX0_sum ({ frames := 4, cells := 0, slots := 0, locals := 113 }) (PK ad [.ref (ad i), .long x1, .long x3]) (k2_QcV (.long (fX0_sum i x1 x3))) 0 0 (fun _ => False) := by
  refine Met.ofW (cc := cX0_sum) (maxL := 5) (ret := (some .long)) (by decide) rfl ?_
  intro p e s m args below meth c s₁ B hml hv
  obtain ⟨rfl, hKC⟩ := hv
  have hx := B.exec
  have hb := B.bytes
  have hr := B.returns
  have hts := atoms_spec (ws := wsX0_sum) B.pre
  have hown : s.vm.findClass RX0 = some m.cls := findClass_of_methodNamed B.named
  have hlocks := B.notSynchronized
  have hS : va_S (fun _ => False) s.heap s.heap [] := va_S.rf
  have hl := lv_entry ([.ref (ad i), .long x1, .long x3]) (n := 5) (Nat.le_of_ble_eq_true rfl)
  rw [lg_entry_eq]
  generalize (lg_sl ([.ref (ad i), .long x1, .long x3]) ++ List.replicate (5 - (lg_sl ([.ref (ad i), .long x1, .long x3])).length) Slot.unset).toArray = ls at hl ⊢
  have hl : lv_has ls 5 [(0, .ref (ad i)), (1, .long x1), (3, .long x3)] := hl
  refine lv_aload_n hx hb dX0_sum_0 rfl (lv_at hl 0 rfl) ?_
  refine lv_lload_n hx hb dX0_sum_1 rfl (lv_at hl 1 rfl) ?_
  refine pc_V (i := i) (As := [.long x1]) (rest := []) (r := .long (fX0_sizeOf i x1)) ⟨hx, hb, hml, hown, hts⟩ (c_X0_sizeOf l ad i hi x1) (cwV 1 hts gX0_sum_X0_sizeOf rfl rfl rfl hd_X0_sizeOf ⟨Nat.le_of_ble_eq_true rfl, Nat.le_of_ble_eq_true rfl⟩) hKC hS hi rfl hl.1 rfl (lv_room (Nat.le_of_ble_eq_true rfl)) dX0_sum_2 ⟨Nat.zero_le _, Nat.zero_le _⟩ ?_
  refine lv_aload_n hx hb dX0_sum_5 rfl (lv_at hl 0 rfl) ?_
  refine lv_lload_n hx hb dX0_sum_6 rfl (lv_at hl 2 rfl) ?_
  refine pc_V (i := i) (As := [.long x3]) (rest := [.long (fX0_sizeOf i x1)]) (r := .long (fX0_sizeOf i x3)) ⟨hx, hb, hml, hown, hts⟩ (c_X0_sizeOf l ad i hi x3) (cwV 1 hts gX0_sum_X0_sizeOf rfl rfl rfl hd_X0_sizeOf ⟨Nat.le_of_ble_eq_true rfl, Nat.le_of_ble_eq_true rfl⟩) hKC hS hi rfl hl.1 rfl (lv_room (Nat.le_of_ble_eq_true rfl)) dX0_sum_7 ⟨Nat.zero_le _, Nat.zero_le _⟩ ?_
  refine pl_ge (tgt := 23) hx hb dX0_sum_10 dX0_sum_11 (by decide) (fun c_1 => ?_) (fun c_1 => ?_)
  · refine lv_aload_n hx hb dX0_sum_23 rfl (lv_at hl 0 rfl) ?_
    refine lv_lload_n hx hb dX0_sum_24 rfl (lv_at hl 1 rfl) ?_
    refine lv_lload_n hx hb dX0_sum_25 rfl (lv_at hl 2 rfl) ?_
    refine pc_V (i := i) (As := [.long x1, .long x3]) (rest := []) (r := .long (fX0_sumByLarger i x1 x3)) ⟨hx, hb, hml, hown, hts⟩ (c_X0_sumByLarger l ad i hi x1 x3) (cwV 2 hts gX0_sum_X0_sumByLarger rfl rfl rfl hd_X0_sumByLarger ⟨Nat.le_of_ble_eq_true rfl, Nat.le_of_ble_eq_true rfl⟩) hKC hS hi rfl hl.1 rfl (lv_room (Nat.le_of_ble_eq_true rfl)) dX0_sum_26 ⟨Nat.zero_le _, Nat.zero_le _⟩ ?_
    exact W.lret hx hb hr (fun t ht _ => ⟨congrArg (fun z => Outcome.returned (some (Value.long z))) (by unfold fX0_sum; rw [if_pos c_1]), ht⟩) (fun _ h => nomatch h) dX0_sum_29
  · refine lv_aload_n hx hb dX0_sum_14 rfl (lv_at hl 0 rfl) ?_
    refine lv_lload_n hx hb dX0_sum_15 rfl (lv_at hl 2 rfl) ?_
    refine lv_lload_n hx hb dX0_sum_16 rfl (lv_at hl 1 rfl) ?_
    refine pc_V (i := i) (As := [.long x3, .long x1]) (rest := []) (r := .long (fX0_sumByLarger i x3 x1)) ⟨hx, hb, hml, hown, hts⟩ (c_X0_sumByLarger l ad i hi x3 x1) (cwV 2 hts gX0_sum_X0_sumByLarger rfl rfl rfl hd_X0_sumByLarger ⟨Nat.le_of_ble_eq_true rfl, Nat.le_of_ble_eq_true rfl⟩) hKC hS hi rfl hl.1 rfl (lv_room (Nat.le_of_ble_eq_true rfl)) dX0_sum_17 ⟨Nat.zero_le _, Nat.zero_le _⟩ ?_
    refine lv_goto (tgt := 29) hx hb dX0_sum_20 (by decide) ?_
    exact W.lret hx hb hr (fun t ht _ => ⟨congrArg (fun z => Outcome.returned (some (Value.long z))) (by unfold fX0_sum; rw [if_neg c_1]), ht⟩) (fun _ h => nomatch h) dX0_sum_29
