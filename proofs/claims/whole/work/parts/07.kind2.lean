def fX0_roundedOff (x0 : Int64) : Int64 :=
  if (fX0_isRoundedUp (x0 &&& (7 : Int64)) (4 : Int64) (x0 >>> ((3 : Int32).toInt64 &&& 63))) = 0 then
    x0 >>> ((3 : Int32).toInt64 &&& 63)
  else
    (x0 >>> ((3 : Int32).toInt64 &&& 63)) + (1 : Int64)
theorem hd_X0_roundedOff : yX0_roundedOff.cls ≠ "java/lang/invoke/MethodHandle" ∧ yX0_roundedOff.cls ≠ "java/lang/invoke/VarHandle" ∧ (parseMethodDescriptor yX0_roundedOff.desc).map (fun d => d.parameters.length) = some 1 := by decide +kernel
set_option maxHeartbeats 4000000 in
set_option maxRecDepth 100000 in
theorem c_X0_roundedOff (l : Launch) (x0 : Int64) : Met l yX0_roundedOff wsX0_roundedOff ({ frames := 1, cells := 0, slots := 0, locals := 25 }) (P0 [.long x0]) (k2_QcV (.long (fX0_roundedOff x0))) 0 0 (fun _ => False) := by
  refine Met.ofW (cc := cX0_roundedOff) (maxL := 4) (ret := (some .long)) (by decide) rfl ?_
  intro p e s m args below meth c s₁ B hml hv
  have hv2 : args = _ := hv
  subst hv2
  have hx := B.exec
  have hb := B.bytes
  have hr := B.returns
  have hts := atoms_spec (ws := wsX0_roundedOff) B.pre
  have hown : s.vm.findClass RX0 = some m.cls := findClass_of_methodNamed B.named
  have hlocks := B.notSynchronized
  have hl := lv_entry ([.long x0]) (n := 4) (Nat.le_of_ble_eq_true rfl)
  rw [lg_entry_eq]
  generalize (lg_sl ([.long x0]) ++ List.replicate (4 - (lg_sl ([.long x0])).length) Slot.unset).toArray = ls at hl ⊢
  have hl : lv_has ls 4 [(0, .long x0)] := hl
  refine lv_lload_n hx hb dX0_roundedOff_0 rfl (lv_at hl 0 rfl) ?_
  refine lv_iconst (v := 3) hx hb dX0_roundedOff_1 (by decide) ?_
  refine lv_lshr hx hb dX0_roundedOff_2 rfl ?_
  refine lv_lstore_n (lv' := [(2, .long (x0 >>> ((3 : Int32).toInt64 &&& 63))), (0, .long x0)]) hx hb dX0_roundedOff_3 rfl hl (by decide) rfl (fun ls hl => ?_)
  refine lv_lload_n hx hb dX0_roundedOff_4 rfl (lv_at hl 1 rfl) ?_
  refine lv_ldc2 (v := (7)) hx hb hown (hts (.constantLong RX0 104 (7)) (by decide +kernel)) dX0_roundedOff_5 ?_
  refine lv_land hx hb dX0_roundedOff_8 ?_
  refine lv_ldc2 (v := (4)) hx hb hown (hts (.constantLong RX0 106 (4)) (by decide +kernel)) dX0_roundedOff_9 ?_
  refine lv_lload_n hx hb dX0_roundedOff_12 rfl (lv_at hl 0 rfl) ?_
  refine pc_0 (As := [.long (x0 &&& (7 : Int64)), .long (4 : Int64), .long (x0 >>> ((3 : Int32).toInt64 &&& 63))]) (rest := []) (r := .int (fX0_isRoundedUp (x0 &&& (7 : Int64)) (4 : Int64) (x0 >>> ((3 : Int32).toInt64 &&& 63)))) ⟨hx, hb, hml, hown, hts⟩ (c_X0_isRoundedUp l (x0 &&& (7 : Int64)) (4 : Int64) (x0 >>> ((3 : Int32).toInt64 &&& 63))) (va_cwS 3 hts gX0_roundedOff_X0_isRoundedUp rfl rfl rfl hd_X0_isRoundedUp ⟨Nat.le_of_ble_eq_true rfl, Nat.le_of_ble_eq_true rfl⟩) rfl hl.1 rfl (lv_room (Nat.le_of_ble_eq_true rfl)) dX0_roundedOff_13 ⟨Nat.zero_le _, Nat.zero_le _⟩ ?_
  refine lv_if_eq (tgt := 25) hx hb dX0_roundedOff_16 (by decide) (fun c_1 => ?_) (fun c_1 => ?_)
  · refine lv_lload_n hx hb dX0_roundedOff_25 rfl (lv_at hl 0 rfl) ?_
    exact W.lret hx hb hr (fun t ht _ => ⟨congrArg (fun z => Outcome.returned (some (Value.long z))) (by unfold fX0_roundedOff; rw [if_pos c_1]), ht⟩) (fun _ h => nomatch h) dX0_roundedOff_26
  · refine lv_lload_n hx hb dX0_roundedOff_19 rfl (lv_at hl 0 rfl) ?_
    refine lv_lconst (v := 1) hx hb dX0_roundedOff_20 (by decide) ?_
    refine lv_ladd hx hb dX0_roundedOff_21 ?_
    refine lv_goto (tgt := 26) hx hb dX0_roundedOff_22 (by decide) ?_
    exact W.lret hx hb hr (fun t ht _ => ⟨congrArg (fun z => Outcome.returned (some (Value.long z))) (by unfold fX0_roundedOff; rw [if_neg c_1]), ht⟩) (fun _ h => nomatch h) dX0_roundedOff_26
/-- the loop of sizeFrom: at most n turns -/
def sfLoop : Nat → Int64 → Int64 → Int32 → Int64 × Int32
  | 0, _, sig, pl => (sig, pl)
  | n + 1, top, sig, pl => if top ≤ sig then (sig, pl) else if pl ≤ 1 then (sig, pl) else sfLoop n top (sig <<< ((1 : Int32).toInt64 &&& 63)) (pl + (-1))
section SF
variable {p : Program} {l : Launch} {e : Env} {R : Room} {s : State} {m : MethodId} {args : Array Value} {below : List Frame} {meth : Method} {c : Code} {H : Heap} {locs : List Loc} {cells slots : Nat} {Q : State → Prop} {rest : List Value}
set_option maxHeartbeats 4000000 in
set_option maxRecDepth 100000 in
theorem sf_loop (hx : p.tables.exec = Jvm.exec) (hb : c.code = cX0_sizeFrom) {r0 : Nat} {top : Int64} : ∀ (n k : Nat) {i9 : Int32} {sig : Int64} {pl : Int32} {ls : Array Slot}, k + n = 64 → i9 = nI k →
    lv_has ls 10 [(9, .int i9), (8, .int pl), (6, .long sig), (4, .long top), (0, .ref r0)] →
    (∀ ls : Array Slot, lv_has ls 10 [(8, .int (sfLoop n top sig pl).2), (6, .long (sfLoop n top sig pl).1), (0, .ref r0)] → W p l e R s m args below meth c H locs cells slots Q (F0 m 74 ls rest)) →
    W p l e R s m args below meth c H locs cells slots Q (F0 m 38 ls rest) := by
  intro n
  induction n with
  | zero =>
    intro k i9 sig pl ls hk h9 hl kk
    have hk : k = 64 := by omega
    subst hk
    refine lv_iload hx hb dX0_sizeFrom_38 (lv_at hl 0 rfl) ?_
    refine lv_bipush (v := (64)) hx hb dX0_sizeFrom_40 (by decide) ?_
    refine lv_icmp_ge (tgt := 74) hx hb dX0_sizeFrom_42 (by decide) (fun c_1 => ?_) (fun c_1 => ?_)
    · exact kk ls (lv_sub hl [1, 2, 4] rfl)
    · exact absurd (by rw [h9]; decide) c_1
  | succ n ih =>
    intro k i9 sig pl ls hk h9 hl kk
    refine lv_iload hx hb dX0_sizeFrom_38 (lv_at hl 0 rfl) ?_
    refine lv_bipush (v := (64)) hx hb dX0_sizeFrom_40 (by decide) ?_
    refine lv_icmp_ge (tgt := 74) hx hb dX0_sizeFrom_42 (by decide) (fun c_1 => ?_) (fun c_1 => ?_)
    · exact absurd c_1 (by rw [h9]; exact nI_ge (a := k) (b := 64) (by omega) (by decide))
    · refine lv_lload hx hb dX0_sizeFrom_45 (lv_at hl 2 rfl) ?_
      refine lv_lload hx hb dX0_sizeFrom_47 (lv_at hl 3 rfl) ?_
      refine pl_ge (tgt := 74) hx hb dX0_sizeFrom_49 dX0_sizeFrom_50 (by decide) (fun c_2 => ?_) (fun c_2 => ?_)
      · exact kk ls (by rw [sfLoop, if_pos c_2]; exact lv_sub hl [1, 2, 4] rfl)
      · refine lv_iload hx hb dX0_sizeFrom_53 (lv_at hl 1 rfl) ?_
        refine lv_iconst (v := 1) hx hb dX0_sizeFrom_55 (by decide) ?_
        refine lv_icmp_le (tgt := 74) hx hb dX0_sizeFrom_56 (by decide) (fun c_3 => ?_) (fun c_3 => ?_)
        · exact kk ls (by rw [sfLoop, if_neg c_2, if_pos c_3]; exact lv_sub hl [1, 2, 4] rfl)
        · refine lv_lload hx hb dX0_sizeFrom_59 (lv_at hl 2 rfl) ?_
          refine lv_iconst (v := 1) hx hb dX0_sizeFrom_61 (by decide) ?_
          refine lv_lshl hx hb dX0_sizeFrom_62 rfl ?_
          refine lv_lstore (lv' := [(6, .long (sig <<< ((1 : Int32).toInt64 &&& 63))), (9, .int i9), (8, .int pl), (4, .long top), (0, .ref r0)]) hx hb dX0_sizeFrom_63 hl (by decide) rfl (fun ls hl => ?_)
          refine lv_iinc (v := pl + (-1)) (lv' := [(8, .int (pl + (-1))), (6, .long (sig <<< ((1 : Int32).toInt64 &&& 63))), (9, .int i9), (4, .long top), (0, .ref r0)]) hx hb dX0_sizeFrom_65 hl (k := 2) rfl rfl (by decide) rfl (fun ls hl => ?_)
          refine lv_iinc (v := i9 + 1) (lv' := [(9, .int (i9 + 1)), (8, .int (pl + (-1))), (6, .long (sig <<< ((1 : Int32).toInt64 &&& 63))), (4, .long top), (0, .ref r0)]) hx hb dX0_sizeFrom_68 hl (k := 2) rfl rfl (by decide) rfl (fun ls hl => ?_)
          refine lv_goto (tgt := 38) hx hb dX0_sizeFrom_71 (by decide) ?_
          refine ih (k + 1) (by omega) (by rw [h9]; exact nI_1 k) hl (fun ls hl => kk ls ?_)
          rw [sfLoop, if_neg c_2, if_neg c_3]
          exact hl
end SF
def fX0_sizeFrom (i : Nat) (x1 : Int64) (x3 : Int32) : Int64 :=
  let v6_1 : Int64 := (kHid i) <<< ((3 : Int32).toInt64 &&& 63)
  if x1 < (v6_1 <<< ((1 : Int32).toInt64 &&& 63)) then
    if ((sfLoop 64 v6_1 x1 x3).2) ≤ ((2 : Int32) * (kBias i)) then
      (((((sfLoop 64 v6_1 x1 x3).2).toInt64) - (1 : Int64)) <<< ((kFrac i).toInt64 &&& 63)) + (fX0_roundedOff ((sfLoop 64 v6_1 x1 x3).1))
    else
      kInf i
  else
    if ((sfLoop 64 v6_1 (fX0_shiftedDown x1 (1 : Int32)) (x3 + (1))).2) ≤ ((2 : Int32) * (kBias i)) then
      (((((sfLoop 64 v6_1 (fX0_shiftedDown x1 (1 : Int32)) (x3 + (1))).2).toInt64) - (1 : Int64)) <<< ((kFrac i).toInt64 &&& 63)) + (fX0_roundedOff ((sfLoop 64 v6_1 (fX0_shiftedDown x1 (1 : Int32)) (x3 + (1))).1))
    else
      kInf i
theorem hd_X0_sizeFrom : yX0_sizeFrom.cls = RX0 ∧ yX0_sizeFrom.cls ≠ "java/lang/invoke/MethodHandle" ∧ yX0_sizeFrom.cls ≠ "java/lang/invoke/VarHandle" ∧ (parseMethodDescriptor yX0_sizeFrom.desc).map (fun d => d.parameters.length) = some 2 := by decide +kernel
set_option maxHeartbeats 4000000 in
set_option maxRecDepth 100000 in
theorem c_X0_sizeFrom (l : Launch) (ad : Nat → Nat) (i : Nat) (hi : i < 2) (x1 : Int64) (x3 : Int32) : Met l yX0_sizeFrom wsX0_sizeFrom ({ frames := 2, cells := 0, slots := 0, locals := 48 }) (PK ad [.ref (ad i), .long x1, .int x3]) (k2_QcV (.long (fX0_sizeFrom i x1 x3))) 0 0 (fun _ => False) := by
  refine Met.ofW (cc := cX0_sizeFrom) (maxL := 10) (ret := (some .long)) (by decide) rfl ?_
  intro p e s m args below meth c s₁ B hml hv
  obtain ⟨rfl, hKC⟩ := hv
  have hx := B.exec
  have hb := B.bytes
  have hr := B.returns
  have hts := atoms_spec (ws := wsX0_sizeFrom) B.pre
  have hown : s.vm.findClass RX0 = some m.cls := findClass_of_methodNamed B.named
  have hlocks := B.notSynchronized
  have hS : va_S (fun _ => False) s.heap s.heap [] := va_S.rf
  have hl := lv_entry ([.ref (ad i), .long x1, .int x3]) (n := 10) (Nat.le_of_ble_eq_true rfl)
  rw [lg_entry_eq]
  generalize (lg_sl ([.ref (ad i), .long x1, .int x3]) ++ List.replicate (10 - (lg_sl ([.ref (ad i), .long x1, .int x3])).length) Slot.unset).toArray = ls at hl ⊢
  have hl : lv_has ls 10 [(0, .ref (ad i)), (1, .long x1), (3, .int x3)] := hl
  refine lv_aload_n hx hb dX0_sizeFrom_0 rfl (lv_at hl 0 rfl) ?_
  refine pk_hid hx hb hKC hi hS hown (hts (.fieldLink RX0 40 "NeedleBoard$Kind" "hiddenBit" "J") (by decide +kernel)) dX0_sizeFrom_1 ?_
  refine lv_iconst (v := 3) hx hb dX0_sizeFrom_4 (by decide) ?_
  refine lv_lshl hx hb dX0_sizeFrom_5 rfl ?_
  refine lv_topl (fun v6_1 e_v6_1 => ?_)
  refine lv_lstore (lv' := [(4, .long v6_1), (0, .ref (ad i)), (1, .long x1), (3, .int x3)]) hx hb dX0_sizeFrom_6 hl (by decide) rfl (fun ls hl => ?_)
  refine lv_lload_n hx hb dX0_sizeFrom_8 rfl (lv_at hl 2 rfl) ?_
  refine lv_lstore (lv' := [(6, .long x1), (4, .long v6_1), (0, .ref (ad i)), (1, .long x1), (3, .int x3)]) hx hb dX0_sizeFrom_9 hl (by decide) rfl (fun ls hl => ?_)
  refine lv_iload_n hx hb dX0_sizeFrom_11 rfl (lv_at hl 4 rfl) ?_
  refine lv_istore (lv' := [(8, .int x3), (6, .long x1), (4, .long v6_1), (0, .ref (ad i)), (1, .long x1), (3, .int x3)]) hx hb dX0_sizeFrom_12 hl (by decide) rfl (fun ls hl => ?_)
  refine lv_lload hx hb dX0_sizeFrom_14 (lv_at hl 1 rfl) ?_
  refine lv_lload hx hb dX0_sizeFrom_16 (lv_at hl 2 rfl) ?_
  refine lv_iconst (v := 1) hx hb dX0_sizeFrom_18 (by decide) ?_
  refine lv_lshl hx hb dX0_sizeFrom_19 rfl ?_
  refine pl_lt (tgt := 35) hx hb dX0_sizeFrom_20 dX0_sizeFrom_21 (by decide) (fun c_2 => ?_) (fun c_2 => ?_)
  · refine lv_iconst (v := 0) hx hb dX0_sizeFrom_35 (by decide) ?_
    refine lv_istore (lv' := [(9, .int (0 : Int32)), (8, .int x3), (6, .long x1), (4, .long v6_1), (0, .ref (ad i)), (1, .long x1), (3, .int x3)]) hx hb dX0_sizeFrom_36 hl (by decide) rfl (fun ls hl => ?_)
    refine sf_loop hx hb 64 0 rfl rfl (lv_sub hl [0, 1, 2, 3, 4] rfl) (fun ls hl => ?_)
    refine lv_iload hx hb dX0_sizeFrom_74 (lv_at hl 0 rfl) ?_
    refine lv_iconst (v := 2) hx hb dX0_sizeFrom_76 (by decide) ?_
    refine lv_aload_n hx hb dX0_sizeFrom_77 rfl (lv_at hl 2 rfl) ?_
    refine pk_bias hx hb hKC hi hS hown (hts (.fieldLink RX0 33 "NeedleBoard$Kind" "bias" "I") (by decide +kernel)) dX0_sizeFrom_78 ?_
    refine lv_imul hx hb dX0_sizeFrom_81 ?_
    refine lv_icmp_le (tgt := 90) hx hb dX0_sizeFrom_82 (by decide) (fun c_3 => ?_) (fun c_3 => ?_)
    · refine lv_iload hx hb dX0_sizeFrom_90 (lv_at hl 0 rfl) ?_
      refine lv_i2l hx hb dX0_sizeFrom_92 rfl ?_
      refine lv_lconst (v := 1) hx hb dX0_sizeFrom_93 (by decide) ?_
      refine lv_lsub hx hb dX0_sizeFrom_94 ?_
      refine lv_aload_n hx hb dX0_sizeFrom_95 rfl (lv_at hl 2 rfl) ?_
      refine pk_frac hx hb hKC hi hS hown (hts (.fieldLink RX0 29 "NeedleBoard$Kind" "fractionBits" "I") (by decide +kernel)) dX0_sizeFrom_96 ?_
      refine lv_lshl hx hb dX0_sizeFrom_99 rfl ?_
      refine lv_lload hx hb dX0_sizeFrom_100 (lv_at hl 1 rfl) ?_
      refine pc_0 (As := [.long ((sfLoop 64 v6_1 x1 x3).1)]) (rest := [.long (((((sfLoop 64 v6_1 x1 x3).2).toInt64) - (1 : Int64)) <<< ((kFrac i).toInt64 &&& 63))]) (r := .long (fX0_roundedOff ((sfLoop 64 v6_1 x1 x3).1))) ⟨hx, hb, hml, hown, hts⟩ (c_X0_roundedOff l ((sfLoop 64 v6_1 x1 x3).1)) (va_cwS 1 hts gX0_sizeFrom_X0_roundedOff rfl rfl rfl hd_X0_roundedOff ⟨Nat.le_of_ble_eq_true rfl, Nat.le_of_ble_eq_true rfl⟩) rfl hl.1 rfl (lv_room (Nat.le_of_ble_eq_true rfl)) dX0_sizeFrom_102 ⟨Nat.zero_le _, Nat.zero_le _⟩ ?_
      refine lv_ladd hx hb dX0_sizeFrom_105 ?_
      exact W.lret hx hb hr (fun t ht _ => ⟨congrArg (fun z => Outcome.returned (some (Value.long z))) (by subst e_v6_1; unfold fX0_sizeFrom; dsimp only; rw [if_pos c_2, if_pos c_3]), ht⟩) (fun _ h => nomatch h) dX0_sizeFrom_106
    · refine lv_aload_n hx hb dX0_sizeFrom_85 rfl (lv_at hl 2 rfl) ?_
      refine pk_inf hx hb hKC hi hS hown (hts (.fieldLink RX0 48 "NeedleBoard$Kind" "infinity" "J") (by decide +kernel)) dX0_sizeFrom_86 ?_
      exact W.lret hx hb hr (fun t ht _ => ⟨congrArg (fun z => Outcome.returned (some (Value.long z))) (by subst e_v6_1; unfold fX0_sizeFrom; dsimp only; rw [if_pos c_2, if_neg c_3]), ht⟩) (fun _ h => nomatch h) dX0_sizeFrom_89
  · refine lv_lload hx hb dX0_sizeFrom_24 (lv_at hl 1 rfl) ?_
    refine lv_iconst (v := 1) hx hb dX0_sizeFrom_26 (by decide) ?_
    refine pc_0 (As := [.long x1, .int (1 : Int32)]) (rest := []) (r := .long (fX0_shiftedDown x1 (1 : Int32))) ⟨hx, hb, hml, hown, hts⟩ (c_X0_shiftedDown l x1 (1 : Int32)) (va_cwS 2 hts gX0_sizeFrom_X0_shiftedDown rfl rfl rfl hd_X0_shiftedDown ⟨Nat.le_of_ble_eq_true rfl, Nat.le_of_ble_eq_true rfl⟩) rfl hl.1 rfl (lv_room (Nat.le_of_ble_eq_true rfl)) dX0_sizeFrom_27 ⟨Nat.zero_le _, Nat.zero_le _⟩ ?_
    refine lv_lstore (lv' := [(6, .long (fX0_shiftedDown x1 (1 : Int32))), (8, .int x3), (4, .long v6_1), (0, .ref (ad i)), (1, .long x1), (3, .int x3)]) hx hb dX0_sizeFrom_30 hl (by decide) rfl (fun ls hl => ?_)
    refine lv_iinc (v := x3 + (1)) (lv' := [(8, .int (x3 + (1))), (6, .long (fX0_shiftedDown x1 (1 : Int32))), (4, .long v6_1), (0, .ref (ad i)), (1, .long x1), (3, .int x3)]) hx hb dX0_sizeFrom_32 hl (k := 1) rfl rfl (by decide) rfl (fun ls hl => ?_)
    refine lv_iconst (v := 0) hx hb dX0_sizeFrom_35 (by decide) ?_
    refine lv_istore (lv' := [(9, .int (0 : Int32)), (8, .int (x3 + (1))), (6, .long (fX0_shiftedDown x1 (1 : Int32))), (4, .long v6_1), (0, .ref (ad i)), (1, .long x1), (3, .int x3)]) hx hb dX0_sizeFrom_36 hl (by decide) rfl (fun ls hl => ?_)
    refine sf_loop hx hb 64 0 rfl rfl (lv_sub hl [0, 1, 2, 3, 4] rfl) (fun ls hl => ?_)
    refine lv_iload hx hb dX0_sizeFrom_74 (lv_at hl 0 rfl) ?_
    refine lv_iconst (v := 2) hx hb dX0_sizeFrom_76 (by decide) ?_
    refine lv_aload_n hx hb dX0_sizeFrom_77 rfl (lv_at hl 2 rfl) ?_
    refine pk_bias hx hb hKC hi hS hown (hts (.fieldLink RX0 33 "NeedleBoard$Kind" "bias" "I") (by decide +kernel)) dX0_sizeFrom_78 ?_
    refine lv_imul hx hb dX0_sizeFrom_81 ?_
    refine lv_icmp_le (tgt := 90) hx hb dX0_sizeFrom_82 (by decide) (fun c_4 => ?_) (fun c_4 => ?_)
    · refine lv_iload hx hb dX0_sizeFrom_90 (lv_at hl 0 rfl) ?_
      refine lv_i2l hx hb dX0_sizeFrom_92 rfl ?_
      refine lv_lconst (v := 1) hx hb dX0_sizeFrom_93 (by decide) ?_
      refine lv_lsub hx hb dX0_sizeFrom_94 ?_
      refine lv_aload_n hx hb dX0_sizeFrom_95 rfl (lv_at hl 2 rfl) ?_
      refine pk_frac hx hb hKC hi hS hown (hts (.fieldLink RX0 29 "NeedleBoard$Kind" "fractionBits" "I") (by decide +kernel)) dX0_sizeFrom_96 ?_
      refine lv_lshl hx hb dX0_sizeFrom_99 rfl ?_
      refine lv_lload hx hb dX0_sizeFrom_100 (lv_at hl 1 rfl) ?_
      refine pc_0 (As := [.long ((sfLoop 64 v6_1 (fX0_shiftedDown x1 (1 : Int32)) (x3 + (1))).1)]) (rest := [.long (((((sfLoop 64 v6_1 (fX0_shiftedDown x1 (1 : Int32)) (x3 + (1))).2).toInt64) - (1 : Int64)) <<< ((kFrac i).toInt64 &&& 63))]) (r := .long (fX0_roundedOff ((sfLoop 64 v6_1 (fX0_shiftedDown x1 (1 : Int32)) (x3 + (1))).1))) ⟨hx, hb, hml, hown, hts⟩ (c_X0_roundedOff l ((sfLoop 64 v6_1 (fX0_shiftedDown x1 (1 : Int32)) (x3 + (1))).1)) (va_cwS 1 hts gX0_sizeFrom_X0_roundedOff rfl rfl rfl hd_X0_roundedOff ⟨Nat.le_of_ble_eq_true rfl, Nat.le_of_ble_eq_true rfl⟩) rfl hl.1 rfl (lv_room (Nat.le_of_ble_eq_true rfl)) dX0_sizeFrom_102 ⟨Nat.zero_le _, Nat.zero_le _⟩ ?_
      refine lv_ladd hx hb dX0_sizeFrom_105 ?_
      exact W.lret hx hb hr (fun t ht _ => ⟨congrArg (fun z => Outcome.returned (some (Value.long z))) (by subst e_v6_1; unfold fX0_sizeFrom; dsimp only; rw [if_neg c_2, if_pos c_4]), ht⟩) (fun _ h => nomatch h) dX0_sizeFrom_106
    · refine lv_aload_n hx hb dX0_sizeFrom_85 rfl (lv_at hl 2 rfl) ?_
      refine pk_inf hx hb hKC hi hS hown (hts (.fieldLink RX0 48 "NeedleBoard$Kind" "infinity" "J") (by decide +kernel)) dX0_sizeFrom_86 ?_
      exact W.lret hx hb hr (fun t ht _ => ⟨congrArg (fun z => Outcome.returned (some (Value.long z))) (by subst e_v6_1; unfold fX0_sizeFrom; dsimp only; rw [if_neg c_2, if_neg c_4]), ht⟩) (fun _ h => nomatch h) dX0_sizeFrom_89
def fX0_wholeOfPart (i : Nat) (x1 : Int64) (x3 : Int32) : Int64 :=
  if x3 = (2 : Int32) then
    if (fX0_sizeOf i x1) ≤ ((kOne i) - (kHid i)) then
      (0 : Int64)
    else
      kOne i
  else
    if (fX0_growsBy x3 x1) = 0 then
      (0 : Int64)
    else
      kOne i
theorem hd_X0_wholeOfPart : yX0_wholeOfPart.cls = RX0 ∧ yX0_wholeOfPart.cls ≠ "java/lang/invoke/MethodHandle" ∧ yX0_wholeOfPart.cls ≠ "java/lang/invoke/VarHandle" ∧ (parseMethodDescriptor yX0_wholeOfPart.desc).map (fun d => d.parameters.length) = some 2 := by decide +kernel
set_option maxHeartbeats 4000000 in
set_option maxRecDepth 100000 in
theorem c_X0_wholeOfPart (l : Launch) (ad : Nat → Nat) (i : Nat) (hi : i < 2) (x1 : Int64) (x3 : Int32) : Met l yX0_wholeOfPart wsX0_wholeOfPart ({ frames := 1, cells := 0, slots := 0, locals := 22 }) (PK ad [.ref (ad i), .long x1, .int x3]) (k2_QcV (.long (fX0_wholeOfPart i x1 x3))) 0 0 (fun _ => False) := by
  refine Met.ofW (cc := cX0_wholeOfPart) (maxL := 7) (ret := (some .long)) (by decide) rfl ?_
  intro p e s m args below meth c s₁ B hml hv
  obtain ⟨rfl, hKC⟩ := hv
  have hx := B.exec
  have hb := B.bytes
  have hr := B.returns
  have hts := atoms_spec (ws := wsX0_wholeOfPart) B.pre
  have hown : s.vm.findClass RX0 = some m.cls := findClass_of_methodNamed B.named
  have hlocks := B.notSynchronized
  have hS : va_S (fun _ => False) s.heap s.heap [] := va_S.rf
  have hl := lv_entry ([.ref (ad i), .long x1, .int x3]) (n := 7) (Nat.le_of_ble_eq_true rfl)
  rw [lg_entry_eq]
  generalize (lg_sl ([.ref (ad i), .long x1, .int x3]) ++ List.replicate (7 - (lg_sl ([.ref (ad i), .long x1, .int x3])).length) Slot.unset).toArray = ls at hl ⊢
  have hl : lv_has ls 7 [(0, .ref (ad i)), (1, .long x1), (3, .int x3)] := hl
  refine lv_aload_n hx hb dX0_wholeOfPart_0 rfl (lv_at hl 0 rfl) ?_
  refine pk_one hx hb hKC hi hS hown (hts (.fieldLink RX0 43 "NeedleBoard$Kind" "one" "J") (by decide +kernel)) dX0_wholeOfPart_1 ?_
  refine lv_aload_n hx hb dX0_wholeOfPart_4 rfl (lv_at hl 0 rfl) ?_
  refine pk_hid hx hb hKC hi hS hown (hts (.fieldLink RX0 40 "NeedleBoard$Kind" "hiddenBit" "J") (by decide +kernel)) dX0_wholeOfPart_5 ?_
  refine lv_lsub hx hb dX0_wholeOfPart_8 ?_
  refine lv_lstore (lv' := [(4, .long ((kOne i) - (kHid i))), (0, .ref (ad i)), (1, .long x1), (3, .int x3)]) hx hb dX0_wholeOfPart_9 hl (by decide) rfl (fun ls hl => ?_)
  refine lv_iload_n hx hb dX0_wholeOfPart_11 rfl (lv_at hl 3 rfl) ?_
  refine lv_iconst (v := 2) hx hb dX0_wholeOfPart_12 (by decide) ?_
  refine lv_icmp_ne (tgt := 35) hx hb dX0_wholeOfPart_13 (by decide) (fun c_1 => ?_) (fun c_1 => ?_)
  · refine lv_iload_n hx hb dX0_wholeOfPart_35 rfl (lv_at hl 3 rfl) ?_
    refine lv_lload_n hx hb dX0_wholeOfPart_36 rfl (lv_at hl 2 rfl) ?_
    refine pc_0 (As := [.int x3, .long x1]) (rest := []) (r := .int (fX0_growsBy x3 x1)) ⟨hx, hb, hml, hown, hts⟩ (c_X0_growsBy l x3 x1) (va_cwS 2 hts gX0_wholeOfPart_X0_growsBy rfl rfl rfl hd_X0_growsBy ⟨Nat.le_of_ble_eq_true rfl, Nat.le_of_ble_eq_true rfl⟩) rfl hl.1 rfl (lv_room (Nat.le_of_ble_eq_true rfl)) dX0_wholeOfPart_37 ⟨Nat.zero_le _, Nat.zero_le _⟩ ?_
    refine lv_istore (lv' := [(6, .int (fX0_growsBy x3 x1)), (4, .long ((kOne i) - (kHid i))), (0, .ref (ad i)), (1, .long x1), (3, .int x3)]) hx hb dX0_wholeOfPart_40 hl (by decide) rfl (fun ls hl => ?_)
    refine lv_iload hx hb dX0_wholeOfPart_42 (lv_at hl 0 rfl) ?_
    refine lv_if_eq (tgt := 54) hx hb dX0_wholeOfPart_44 (by decide) (fun c_2 => ?_) (fun c_2 => ?_)
    · refine lv_lconst (v := 0) hx hb dX0_wholeOfPart_54 (by decide) ?_
      exact W.lret hx hb hr (fun t ht _ => ⟨congrArg (fun z => Outcome.returned (some (Value.long z))) (by unfold fX0_wholeOfPart; rw [if_neg c_1, if_pos c_2]), ht⟩) (fun _ h => nomatch h) dX0_wholeOfPart_55
    · refine lv_aload_n hx hb dX0_wholeOfPart_47 rfl (lv_at hl 2 rfl) ?_
      refine pk_one hx hb hKC hi hS hown (hts (.fieldLink RX0 43 "NeedleBoard$Kind" "one" "J") (by decide +kernel)) dX0_wholeOfPart_48 ?_
      refine lv_goto (tgt := 55) hx hb dX0_wholeOfPart_51 (by decide) ?_
      exact W.lret hx hb hr (fun t ht _ => ⟨congrArg (fun z => Outcome.returned (some (Value.long z))) (by unfold fX0_wholeOfPart; rw [if_neg c_1, if_neg c_2]), ht⟩) (fun _ h => nomatch h) dX0_wholeOfPart_55
  · refine lv_aload_n hx hb dX0_wholeOfPart_16 rfl (lv_at hl 1 rfl) ?_
    refine lv_lload_n hx hb dX0_wholeOfPart_17 rfl (lv_at hl 2 rfl) ?_
    refine pc_V (i := i) (As := [.long x1]) (rest := []) (r := .long (fX0_sizeOf i x1)) ⟨hx, hb, hml, hown, hts⟩ (c_X0_sizeOf l ad i hi x1) (cwV 1 hts gX0_wholeOfPart_X0_sizeOf rfl rfl rfl hd_X0_sizeOf ⟨Nat.le_of_ble_eq_true rfl, Nat.le_of_ble_eq_true rfl⟩) hKC hS hi rfl hl.1 rfl (lv_room (Nat.le_of_ble_eq_true rfl)) dX0_wholeOfPart_18 ⟨Nat.zero_le _, Nat.zero_le _⟩ ?_
    refine lv_lload hx hb dX0_wholeOfPart_21 (lv_at hl 0 rfl) ?_
    refine pl_le (tgt := 31) hx hb dX0_wholeOfPart_23 dX0_wholeOfPart_24 (by decide) (fun c_3 => ?_) (fun c_3 => ?_)
    · refine lv_iconst (v := 0) hx hb dX0_wholeOfPart_31 (by decide) ?_
      refine lv_goto (tgt := 40) hx hb dX0_wholeOfPart_32 (by decide) ?_
      refine lv_istore (lv' := [(6, .int (0 : Int32)), (4, .long ((kOne i) - (kHid i))), (0, .ref (ad i)), (1, .long x1), (3, .int x3)]) hx hb dX0_wholeOfPart_40 hl (by decide) rfl (fun ls hl => ?_)
      refine lv_iload hx hb dX0_wholeOfPart_42 (lv_at hl 0 rfl) ?_
      refine lv_if_eq (tgt := 54) hx hb dX0_wholeOfPart_44 (by decide) (fun _ => ?_) (fun h9 => absurd h9 (by decide))
      refine lv_lconst (v := 0) hx hb dX0_wholeOfPart_54 (by decide) ?_
      exact W.lret hx hb hr (fun t ht _ => ⟨congrArg (fun z => Outcome.returned (some (Value.long z))) (by unfold fX0_wholeOfPart; rw [if_pos c_1, if_pos c_3]), ht⟩) (fun _ h => nomatch h) dX0_wholeOfPart_55
    · refine lv_iconst (v := 1) hx hb dX0_wholeOfPart_27 (by decide) ?_
      refine lv_goto (tgt := 40) hx hb dX0_wholeOfPart_28 (by decide) ?_
      refine lv_istore (lv' := [(6, .int (1 : Int32)), (4, .long ((kOne i) - (kHid i))), (0, .ref (ad i)), (1, .long x1), (3, .int x3)]) hx hb dX0_wholeOfPart_40 hl (by decide) rfl (fun ls hl => ?_)
      refine lv_iload hx hb dX0_wholeOfPart_42 (lv_at hl 0 rfl) ?_
      refine lv_if_eq (tgt := 54) hx hb dX0_wholeOfPart_44 (by decide) (fun h9 => absurd h9 (by decide)) (fun _ => ?_)
      refine lv_aload_n hx hb dX0_wholeOfPart_47 rfl (lv_at hl 2 rfl) ?_
      refine pk_one hx hb hKC hi hS hown (hts (.fieldLink RX0 43 "NeedleBoard$Kind" "one" "J") (by decide +kernel)) dX0_wholeOfPart_48 ?_
      refine lv_goto (tgt := 55) hx hb dX0_wholeOfPart_51 (by decide) ?_
      exact W.lret hx hb hr (fun t ht _ => ⟨congrArg (fun z => Outcome.returned (some (Value.long z))) (by unfold fX0_wholeOfPart; rw [if_pos c_1, if_neg c_3]), ht⟩) (fun _ h => nomatch h) dX0_wholeOfPart_55
def fX0_wholeOfMixed (i : Nat) (x1 : Int64) (x3 : Int32) (x4 : Int32) : Int64 :=
  let v20_1 : Int64 := (fX0_sizeOf i x1) &&& (((1 : Int64) <<< (x4.toInt64 &&& 63)) - (1 : Int64))
  if v20_1 = (0 : Int64) then
    fX0_sizeOf i x1
  else
    if x3 = (2 : Int32) then
      let v70_5 : Int32 := fX0_isRoundedUp v20_1 (((1 : Int64) <<< (x4.toInt64 &&& 63)) >>> ((1 : Int32).toInt64 &&& 63)) ((fX0_significandOf i (fX0_sizeOf i x1)) >>> (x4.toInt64 &&& 63))
      if v70_5 = 0 then
        (fX0_sizeOf i x1) - v20_1
      else
        ((fX0_sizeOf i x1) - v20_1) + ((1 : Int64) <<< (x4.toInt64 &&& 63))
    else
      if (fX0_growsBy x3 x1) = 0 then
        (fX0_sizeOf i x1) - v20_1
      else
        ((fX0_sizeOf i x1) - v20_1) + ((1 : Int64) <<< (x4.toInt64 &&& 63))
theorem hd_X0_wholeOfMixed : yX0_wholeOfMixed.cls = RX0 ∧ yX0_wholeOfMixed.cls ≠ "java/lang/invoke/MethodHandle" ∧ yX0_wholeOfMixed.cls ≠ "java/lang/invoke/VarHandle" ∧ (parseMethodDescriptor yX0_wholeOfMixed.desc).map (fun d => d.parameters.length) = some 3 := by decide +kernel
set_option maxHeartbeats 4000000 in
set_option maxRecDepth 100000 in
theorem c_X0_wholeOfMixed (l : Launch) (ad : Nat → Nat) (i : Nat) (hi : i < 2) (x1 : Int64) (x3 : Int32) (x4 : Int32) : Met l yX0_wholeOfMixed wsX0_wholeOfMixed ({ frames := 1, cells := 0, slots := 0, locals := 25 }) (PK ad [.ref (ad i), .long x1, .int x3, .int x4]) (k2_QcV (.long (fX0_wholeOfMixed i x1 x3 x4))) 0 0 (fun _ => False) := by
  refine Met.ofW (cc := cX0_wholeOfMixed) (maxL := 14) (ret := (some .long)) (by decide) rfl ?_
  intro p e s m args below meth c s₁ B hml hv
  obtain ⟨rfl, hKC⟩ := hv
  have hx := B.exec
  have hb := B.bytes
  have hr := B.returns
  have hts := atoms_spec (ws := wsX0_wholeOfMixed) B.pre
  have hown : s.vm.findClass RX0 = some m.cls := findClass_of_methodNamed B.named
  have hlocks := B.notSynchronized
  have hS : va_S (fun _ => False) s.heap s.heap [] := va_S.rf
  have hl := lv_entry ([.ref (ad i), .long x1, .int x3, .int x4]) (n := 14) (Nat.le_of_ble_eq_true rfl)
  rw [lg_entry_eq]
  generalize (lg_sl ([.ref (ad i), .long x1, .int x3, .int x4]) ++ List.replicate (14 - (lg_sl ([.ref (ad i), .long x1, .int x3, .int x4])).length) Slot.unset).toArray = ls at hl ⊢
  have hl : lv_has ls 14 [(0, .ref (ad i)), (1, .long x1), (3, .int x3), (4, .int x4)] := hl
  refine lv_aload_n hx hb dX0_wholeOfMixed_0 rfl (lv_at hl 0 rfl) ?_
  refine lv_lload_n hx hb dX0_wholeOfMixed_1 rfl (lv_at hl 1 rfl) ?_
  refine pc_V (i := i) (As := [.long x1]) (rest := []) (r := .long (fX0_sizeOf i x1)) ⟨hx, hb, hml, hown, hts⟩ (c_X0_sizeOf l ad i hi x1) (cwV 1 hts gX0_wholeOfMixed_X0_sizeOf rfl rfl rfl hd_X0_sizeOf ⟨Nat.le_of_ble_eq_true rfl, Nat.le_of_ble_eq_true rfl⟩) hKC hS hi rfl hl.1 rfl (lv_room (Nat.le_of_ble_eq_true rfl)) dX0_wholeOfMixed_2 ⟨Nat.zero_le _, Nat.zero_le _⟩ ?_
  refine lv_lstore (lv' := [(5, .long (fX0_sizeOf i x1)), (0, .ref (ad i)), (1, .long x1), (3, .int x3), (4, .int x4)]) hx hb dX0_wholeOfMixed_5 hl (by decide) rfl (fun ls hl => ?_)
  refine lv_lconst (v := 1) hx hb dX0_wholeOfMixed_7 (by decide) ?_
  refine lv_iload hx hb dX0_wholeOfMixed_8 (lv_at hl 4 rfl) ?_
  refine lv_lshl hx hb dX0_wholeOfMixed_10 rfl ?_
  refine lv_lstore (lv' := [(7, .long ((1 : Int64) <<< (x4.toInt64 &&& 63))), (5, .long (fX0_sizeOf i x1)), (0, .ref (ad i)), (1, .long x1), (3, .int x3), (4, .int x4)]) hx hb dX0_wholeOfMixed_11 hl (by decide) rfl (fun ls hl => ?_)
  refine lv_lload hx hb dX0_wholeOfMixed_13 (lv_at hl 1 rfl) ?_
  refine lv_lload hx hb dX0_wholeOfMixed_15 (lv_at hl 0 rfl) ?_
  refine lv_lconst (v := 1) hx hb dX0_wholeOfMixed_17 (by decide) ?_
  refine lv_lsub hx hb dX0_wholeOfMixed_18 ?_
  refine lv_land hx hb dX0_wholeOfMixed_19 ?_
  refine lv_topl (fun v20_1 e_v20_1 => ?_)
  refine lv_lstore (lv' := [(9, .long v20_1), (7, .long ((1 : Int64) <<< (x4.toInt64 &&& 63))), (5, .long (fX0_sizeOf i x1)), (0, .ref (ad i)), (1, .long x1), (3, .int x3), (4, .int x4)]) hx hb dX0_wholeOfMixed_20 hl (by decide) rfl (fun ls hl => ?_)
  refine lv_lload hx hb dX0_wholeOfMixed_22 (lv_at hl 2 rfl) ?_
  refine lv_lload hx hb dX0_wholeOfMixed_24 (lv_at hl 0 rfl) ?_
  refine lv_lsub hx hb dX0_wholeOfMixed_26 ?_
  refine lv_lstore (lv' := [(11, .long ((fX0_sizeOf i x1) - v20_1)), (9, .long v20_1), (7, .long ((1 : Int64) <<< (x4.toInt64 &&& 63))), (5, .long (fX0_sizeOf i x1)), (0, .ref (ad i)), (1, .long x1), (3, .int x3), (4, .int x4)]) hx hb dX0_wholeOfMixed_27 hl (by decide) rfl (fun ls hl => ?_)
  refine lv_lload hx hb dX0_wholeOfMixed_29 (lv_at hl 1 rfl) ?_
  refine lv_lconst (v := 0) hx hb dX0_wholeOfMixed_31 (by decide) ?_
  refine pl_ne (tgt := 39) hx hb dX0_wholeOfMixed_32 dX0_wholeOfMixed_33 (by decide) (fun c_2 => ?_) (fun c_2 => ?_)
  · refine lv_iload_n hx hb dX0_wholeOfMixed_39 rfl (lv_at hl 6 rfl) ?_
    refine lv_iconst (v := 2) hx hb dX0_wholeOfMixed_40 (by decide) ?_
    refine lv_icmp_ne (tgt := 65) hx hb dX0_wholeOfMixed_41 (by decide) (fun c_3 => ?_) (fun c_3 => ?_)
    · refine lv_iload_n hx hb dX0_wholeOfMixed_65 rfl (lv_at hl 6 rfl) ?_
      refine lv_lload_n hx hb dX0_wholeOfMixed_66 rfl (lv_at hl 5 rfl) ?_
      refine pc_0 (As := [.int x3, .long x1]) (rest := []) (r := .int (fX0_growsBy x3 x1)) ⟨hx, hb, hml, hown, hts⟩ (c_X0_growsBy l x3 x1) (va_cwS 2 hts gX0_wholeOfMixed_X0_growsBy rfl rfl rfl hd_X0_growsBy ⟨Nat.le_of_ble_eq_true rfl, Nat.le_of_ble_eq_true rfl⟩) rfl hl.1 rfl (lv_room (Nat.le_of_ble_eq_true rfl)) dX0_wholeOfMixed_67 ⟨Nat.zero_le _, Nat.zero_le _⟩ ?_
      refine lv_istore (lv' := [(13, .int (fX0_growsBy x3 x1)), (11, .long ((fX0_sizeOf i x1) - v20_1)), (9, .long v20_1), (7, .long ((1 : Int64) <<< (x4.toInt64 &&& 63))), (5, .long (fX0_sizeOf i x1)), (0, .ref (ad i)), (1, .long x1), (3, .int x3), (4, .int x4)]) hx hb dX0_wholeOfMixed_70 hl (by decide) rfl (fun ls hl => ?_)
      refine lv_iload hx hb dX0_wholeOfMixed_72 (lv_at hl 0 rfl) ?_
      refine lv_if_eq (tgt := 85) hx hb dX0_wholeOfMixed_74 (by decide) (fun c_4 => ?_) (fun c_4 => ?_)
      · refine lv_lload hx hb dX0_wholeOfMixed_85 (lv_at hl 1 rfl) ?_
        exact W.lret hx hb hr (fun t ht _ => ⟨congrArg (fun z => Outcome.returned (some (Value.long z))) (by subst e_v20_1; unfold fX0_wholeOfMixed; dsimp only; rw [if_neg c_2, if_neg c_3, if_pos c_4]), ht⟩) (fun _ h => nomatch h) dX0_wholeOfMixed_87
      · refine lv_lload hx hb dX0_wholeOfMixed_77 (lv_at hl 1 rfl) ?_
        refine lv_lload hx hb dX0_wholeOfMixed_79 (lv_at hl 3 rfl) ?_
        refine lv_ladd hx hb dX0_wholeOfMixed_81 ?_
        refine lv_goto (tgt := 87) hx hb dX0_wholeOfMixed_82 (by decide) ?_
        exact W.lret hx hb hr (fun t ht _ => ⟨congrArg (fun z => Outcome.returned (some (Value.long z))) (by subst e_v20_1; unfold fX0_wholeOfMixed; dsimp only; rw [if_neg c_2, if_neg c_3, if_neg c_4]), ht⟩) (fun _ h => nomatch h) dX0_wholeOfMixed_87
    · refine lv_lload hx hb dX0_wholeOfMixed_44 (lv_at hl 1 rfl) ?_
      refine lv_lload hx hb dX0_wholeOfMixed_46 (lv_at hl 2 rfl) ?_
      refine lv_iconst (v := 1) hx hb dX0_wholeOfMixed_48 (by decide) ?_
      refine lv_lshr hx hb dX0_wholeOfMixed_49 rfl ?_
      refine lv_aload_n hx hb dX0_wholeOfMixed_50 rfl (lv_at hl 4 rfl) ?_
      refine lv_lload hx hb dX0_wholeOfMixed_51 (lv_at hl 3 rfl) ?_
      refine pc_V (i := i) (As := [.long (fX0_sizeOf i x1)]) (rest := [.long (((1 : Int64) <<< (x4.toInt64 &&& 63)) >>> ((1 : Int32).toInt64 &&& 63)), .long v20_1]) (r := .long (fX0_significandOf i (fX0_sizeOf i x1))) ⟨hx, hb, hml, hown, hts⟩ (c_X0_significandOf l ad i hi (fX0_sizeOf i x1)) (cwV 1 hts gX0_wholeOfMixed_X0_significandOf rfl rfl rfl hd_X0_significandOf ⟨Nat.le_of_ble_eq_true rfl, Nat.le_of_ble_eq_true rfl⟩) hKC hS hi rfl hl.1 rfl (lv_room (Nat.le_of_ble_eq_true rfl)) dX0_wholeOfMixed_53 ⟨Nat.zero_le _, Nat.zero_le _⟩ ?_
      refine lv_iload hx hb dX0_wholeOfMixed_56 (lv_at hl 7 rfl) ?_
      refine lv_lshr hx hb dX0_wholeOfMixed_58 rfl ?_
      refine pc_0 (As := [.long v20_1, .long (((1 : Int64) <<< (x4.toInt64 &&& 63)) >>> ((1 : Int32).toInt64 &&& 63)), .long ((fX0_significandOf i (fX0_sizeOf i x1)) >>> (x4.toInt64 &&& 63))]) (rest := []) (r := .int (fX0_isRoundedUp v20_1 (((1 : Int64) <<< (x4.toInt64 &&& 63)) >>> ((1 : Int32).toInt64 &&& 63)) ((fX0_significandOf i (fX0_sizeOf i x1)) >>> (x4.toInt64 &&& 63)))) ⟨hx, hb, hml, hown, hts⟩ (c_X0_isRoundedUp l v20_1 (((1 : Int64) <<< (x4.toInt64 &&& 63)) >>> ((1 : Int32).toInt64 &&& 63)) ((fX0_significandOf i (fX0_sizeOf i x1)) >>> (x4.toInt64 &&& 63))) (va_cwS 3 hts gX0_wholeOfMixed_X0_isRoundedUp rfl rfl rfl hd_X0_isRoundedUp ⟨Nat.le_of_ble_eq_true rfl, Nat.le_of_ble_eq_true rfl⟩) rfl hl.1 rfl (lv_room (Nat.le_of_ble_eq_true rfl)) dX0_wholeOfMixed_59 ⟨Nat.zero_le _, Nat.zero_le _⟩ ?_
      refine lv_goto (tgt := 70) hx hb dX0_wholeOfMixed_62 (by decide) ?_
      refine lv_topi (fun v70_5 e_v70_5 => ?_)
      refine lv_istore (lv' := [(13, .int v70_5), (11, .long ((fX0_sizeOf i x1) - v20_1)), (9, .long v20_1), (7, .long ((1 : Int64) <<< (x4.toInt64 &&& 63))), (5, .long (fX0_sizeOf i x1)), (0, .ref (ad i)), (1, .long x1), (3, .int x3), (4, .int x4)]) hx hb dX0_wholeOfMixed_70 hl (by decide) rfl (fun ls hl => ?_)
      refine lv_iload hx hb dX0_wholeOfMixed_72 (lv_at hl 0 rfl) ?_
      refine lv_if_eq (tgt := 85) hx hb dX0_wholeOfMixed_74 (by decide) (fun c_6 => ?_) (fun c_6 => ?_)
      · refine lv_lload hx hb dX0_wholeOfMixed_85 (lv_at hl 1 rfl) ?_
        exact W.lret hx hb hr (fun t ht _ => ⟨congrArg (fun z => Outcome.returned (some (Value.long z))) (by subst e_v20_1 e_v70_5; unfold fX0_wholeOfMixed; dsimp only; rw [if_neg c_2, if_pos c_3, if_pos c_6]), ht⟩) (fun _ h => nomatch h) dX0_wholeOfMixed_87
      · refine lv_lload hx hb dX0_wholeOfMixed_77 (lv_at hl 1 rfl) ?_
        refine lv_lload hx hb dX0_wholeOfMixed_79 (lv_at hl 3 rfl) ?_
        refine lv_ladd hx hb dX0_wholeOfMixed_81 ?_
        refine lv_goto (tgt := 87) hx hb dX0_wholeOfMixed_82 (by decide) ?_
        exact W.lret hx hb hr (fun t ht _ => ⟨congrArg (fun z => Outcome.returned (some (Value.long z))) (by subst e_v20_1 e_v70_5; unfold fX0_wholeOfMixed; dsimp only; rw [if_neg c_2, if_pos c_3, if_neg c_6]), ht⟩) (fun _ h => nomatch h) dX0_wholeOfMixed_87
  · refine lv_lload hx hb dX0_wholeOfMixed_36 (lv_at hl 3 rfl) ?_
    exact W.lret hx hb hr (fun t ht _ => ⟨congrArg (fun z => Outcome.returned (some (Value.long z))) (by subst e_v20_1; unfold fX0_wholeOfMixed; dsimp only; rw [if_pos c_2]), ht⟩) (fun _ h => nomatch h) dX0_wholeOfMixed_38
def fX0_wholeOf (i : Nat) (x1 : Int64) (x3 : Int32) : Int64 :=
  let v18_1 : Int32 := (fX0_exponentOf i (fX0_sizeOf i x1)) - (kBias i)
  if (fX0_sizeOf i x1) = (0 : Int64) then
    x1
  else
    if v18_1 < (kFrac i) then
      if 0 ≤ v18_1 then
        let v65_5 : Int64 := fX0_wholeOfMixed i x1 x3 ((kFrac i) - v18_1)
        fX0_withSideOf i v65_5 x1
      else
        fX0_withSideOf i (fX0_wholeOfPart i x1 x3) x1
    else
      x1
theorem hd_X0_wholeOf : yX0_wholeOf.cls = RX0 ∧ yX0_wholeOf.cls ≠ "java/lang/invoke/MethodHandle" ∧ yX0_wholeOf.cls ≠ "java/lang/invoke/VarHandle" ∧ (parseMethodDescriptor yX0_wholeOf.desc).map (fun d => d.parameters.length) = some 2 := by decide +kernel
set_option maxHeartbeats 4000000 in
set_option maxRecDepth 100000 in
theorem c_X0_wholeOf (l : Launch) (ad : Nat → Nat) (i : Nat) (hi : i < 2) (x1 : Int64) (x3 : Int32) : Met l yX0_wholeOf wsX0_wholeOf ({ frames := 2, cells := 0, slots := 0, locals := 58 }) (PK ad [.ref (ad i), .long x1, .int x3]) (k2_QcV (.long (fX0_wholeOf i x1 x3))) 0 0 (fun _ => False) := by
  refine Met.ofW (cc := cX0_wholeOf) (maxL := 9) (ret := (some .long)) (by decide) rfl ?_
  intro p e s m args below meth c s₁ B hml hv
  obtain ⟨rfl, hKC⟩ := hv
  have hx := B.exec
  have hb := B.bytes
  have hr := B.returns
  have hts := atoms_spec (ws := wsX0_wholeOf) B.pre
  have hown : s.vm.findClass RX0 = some m.cls := findClass_of_methodNamed B.named
  have hlocks := B.notSynchronized
  have hS : va_S (fun _ => False) s.heap s.heap [] := va_S.rf
  have hl := lv_entry ([.ref (ad i), .long x1, .int x3]) (n := 9) (Nat.le_of_ble_eq_true rfl)
  rw [lg_entry_eq]
  generalize (lg_sl ([.ref (ad i), .long x1, .int x3]) ++ List.replicate (9 - (lg_sl ([.ref (ad i), .long x1, .int x3])).length) Slot.unset).toArray = ls at hl ⊢
  have hl : lv_has ls 9 [(0, .ref (ad i)), (1, .long x1), (3, .int x3)] := hl
  refine lv_aload_n hx hb dX0_wholeOf_0 rfl (lv_at hl 0 rfl) ?_
  refine lv_lload_n hx hb dX0_wholeOf_1 rfl (lv_at hl 1 rfl) ?_
  refine pc_V (i := i) (As := [.long x1]) (rest := []) (r := .long (fX0_sizeOf i x1)) ⟨hx, hb, hml, hown, hts⟩ (c_X0_sizeOf l ad i hi x1) (cwV 1 hts gX0_wholeOf_X0_sizeOf rfl rfl rfl hd_X0_sizeOf ⟨Nat.le_of_ble_eq_true rfl, Nat.le_of_ble_eq_true rfl⟩) hKC hS hi rfl hl.1 rfl (lv_room (Nat.le_of_ble_eq_true rfl)) dX0_wholeOf_2 ⟨Nat.zero_le _, Nat.zero_le _⟩ ?_
  refine lv_lstore (lv' := [(4, .long (fX0_sizeOf i x1)), (0, .ref (ad i)), (1, .long x1), (3, .int x3)]) hx hb dX0_wholeOf_5 hl (by decide) rfl (fun ls hl => ?_)
  refine lv_aload_n hx hb dX0_wholeOf_7 rfl (lv_at hl 1 rfl) ?_
  refine lv_lload hx hb dX0_wholeOf_8 (lv_at hl 0 rfl) ?_
  refine pc_V (i := i) (As := [.long (fX0_sizeOf i x1)]) (rest := []) (r := .int (fX0_exponentOf i (fX0_sizeOf i x1))) ⟨hx, hb, hml, hown, hts⟩ (c_X0_exponentOf l ad i hi (fX0_sizeOf i x1)) (cwV 1 hts gX0_wholeOf_X0_exponentOf rfl rfl rfl hd_X0_exponentOf ⟨Nat.le_of_ble_eq_true rfl, Nat.le_of_ble_eq_true rfl⟩) hKC hS hi rfl hl.1 rfl (lv_room (Nat.le_of_ble_eq_true rfl)) dX0_wholeOf_10 ⟨Nat.zero_le _, Nat.zero_le _⟩ ?_
  refine lv_aload_n hx hb dX0_wholeOf_13 rfl (lv_at hl 1 rfl) ?_
  refine pk_bias hx hb hKC hi hS hown (hts (.fieldLink RX0 33 "NeedleBoard$Kind" "bias" "I") (by decide +kernel)) dX0_wholeOf_14 ?_
  refine lv_isub hx hb dX0_wholeOf_17 ?_
  refine lv_topi (fun v18_1 e_v18_1 => ?_)
  refine lv_istore (lv' := [(6, .int v18_1), (4, .long (fX0_sizeOf i x1)), (0, .ref (ad i)), (1, .long x1), (3, .int x3)]) hx hb dX0_wholeOf_18 hl (by decide) rfl (fun ls hl => ?_)
  refine lv_lload hx hb dX0_wholeOf_20 (lv_at hl 1 rfl) ?_
  refine lv_lconst (v := 0) hx hb dX0_wholeOf_22 (by decide) ?_
  refine pl_eq (tgt := 36) hx hb dX0_wholeOf_23 dX0_wholeOf_24 (by decide) (fun c_2 => ?_) (fun c_2 => ?_)
  · refine lv_lload_n hx hb dX0_wholeOf_36 rfl (lv_at hl 3 rfl) ?_
    exact W.lret hx hb hr (fun t ht _ => ⟨congrArg (fun z => Outcome.returned (some (Value.long z))) (by subst e_v18_1; unfold fX0_wholeOf; dsimp only; rw [if_pos c_2]), ht⟩) (fun _ h => nomatch h) dX0_wholeOf_37
  · refine lv_iload hx hb dX0_wholeOf_27 (lv_at hl 0 rfl) ?_
    refine lv_aload_n hx hb dX0_wholeOf_29 rfl (lv_at hl 2 rfl) ?_
    refine pk_frac hx hb hKC hi hS hown (hts (.fieldLink RX0 29 "NeedleBoard$Kind" "fractionBits" "I") (by decide +kernel)) dX0_wholeOf_30 ?_
    refine lv_icmp_lt (tgt := 38) hx hb dX0_wholeOf_33 (by decide) (fun c_3 => ?_) (fun c_3 => ?_)
    · refine lv_iload hx hb dX0_wholeOf_38 (lv_at hl 0 rfl) ?_
      refine lv_if_ge (tgt := 52) hx hb dX0_wholeOf_40 (by decide) (fun c_4 => ?_) (fun c_4 => ?_)
      · refine lv_aload_n hx hb dX0_wholeOf_52 rfl (lv_at hl 2 rfl) ?_
        refine lv_lload_n hx hb dX0_wholeOf_53 rfl (lv_at hl 3 rfl) ?_
        refine lv_iload_n hx hb dX0_wholeOf_54 rfl (lv_at hl 4 rfl) ?_
        refine lv_aload_n hx hb dX0_wholeOf_55 rfl (lv_at hl 2 rfl) ?_
        refine pk_frac hx hb hKC hi hS hown (hts (.fieldLink RX0 29 "NeedleBoard$Kind" "fractionBits" "I") (by decide +kernel)) dX0_wholeOf_56 ?_
        refine lv_iload hx hb dX0_wholeOf_59 (lv_at hl 0 rfl) ?_
        refine lv_isub hx hb dX0_wholeOf_61 ?_
        refine pc_V (i := i) (As := [.long x1, .int x3, .int ((kFrac i) - v18_1)]) (rest := []) (r := .long (fX0_wholeOfMixed i x1 x3 ((kFrac i) - v18_1))) ⟨hx, hb, hml, hown, hts⟩ (c_X0_wholeOfMixed l ad i hi x1 x3 ((kFrac i) - v18_1)) (cwV 3 hts gX0_wholeOf_X0_wholeOfMixed rfl rfl rfl hd_X0_wholeOfMixed ⟨Nat.le_of_ble_eq_true rfl, Nat.le_of_ble_eq_true rfl⟩) hKC hS hi rfl hl.1 rfl (lv_room (Nat.le_of_ble_eq_true rfl)) dX0_wholeOf_62 ⟨Nat.zero_le _, Nat.zero_le _⟩ ?_
        refine lv_topl (fun v65_5 e_v65_5 => ?_)
        refine lv_lstore (lv' := [(7, .long v65_5), (6, .int v18_1), (4, .long (fX0_sizeOf i x1)), (0, .ref (ad i)), (1, .long x1), (3, .int x3)]) hx hb dX0_wholeOf_65 hl (by decide) rfl (fun ls hl => ?_)
        refine lv_aload_n hx hb dX0_wholeOf_67 rfl (lv_at hl 3 rfl) ?_
        refine lv_lload hx hb dX0_wholeOf_68 (lv_at hl 0 rfl) ?_
        refine lv_lload_n hx hb dX0_wholeOf_70 rfl (lv_at hl 4 rfl) ?_
        refine pc_V (i := i) (As := [.long v65_5, .long x1]) (rest := []) (r := .long (fX0_withSideOf i v65_5 x1)) ⟨hx, hb, hml, hown, hts⟩ (c_X0_withSideOf l ad i hi v65_5 x1) (cwV 2 hts gX0_wholeOf_X0_withSideOf rfl rfl rfl hd_X0_withSideOf ⟨Nat.le_of_ble_eq_true rfl, Nat.le_of_ble_eq_true rfl⟩) hKC hS hi rfl hl.1 rfl (lv_room (Nat.le_of_ble_eq_true rfl)) dX0_wholeOf_71 ⟨Nat.zero_le _, Nat.zero_le _⟩ ?_
        exact W.lret hx hb hr (fun t ht _ => ⟨congrArg (fun z => Outcome.returned (some (Value.long z))) (by subst e_v18_1 e_v65_5; unfold fX0_wholeOf; dsimp only; rw [if_neg c_2, if_pos c_3, if_pos c_4]), ht⟩) (fun _ h => nomatch h) dX0_wholeOf_74
      · refine lv_aload_n hx hb dX0_wholeOf_43 rfl (lv_at hl 2 rfl) ?_
        refine lv_lload_n hx hb dX0_wholeOf_44 rfl (lv_at hl 3 rfl) ?_
        refine lv_iload_n hx hb dX0_wholeOf_45 rfl (lv_at hl 4 rfl) ?_
        refine pc_V (i := i) (As := [.long x1, .int x3]) (rest := []) (r := .long (fX0_wholeOfPart i x1 x3)) ⟨hx, hb, hml, hown, hts⟩ (c_X0_wholeOfPart l ad i hi x1 x3) (cwV 2 hts gX0_wholeOf_X0_wholeOfPart rfl rfl rfl hd_X0_wholeOfPart ⟨Nat.le_of_ble_eq_true rfl, Nat.le_of_ble_eq_true rfl⟩) hKC hS hi rfl hl.1 rfl (lv_room (Nat.le_of_ble_eq_true rfl)) dX0_wholeOf_46 ⟨Nat.zero_le _, Nat.zero_le _⟩ ?_
        refine lv_goto (tgt := 65) hx hb dX0_wholeOf_49 (by decide) ?_
        refine lv_lstore (lv' := [(7, .long (fX0_wholeOfPart i x1 x3)), (6, .int v18_1), (4, .long (fX0_sizeOf i x1)), (0, .ref (ad i)), (1, .long x1), (3, .int x3)]) hx hb dX0_wholeOf_65 hl (by decide) rfl (fun ls hl => ?_)
        refine lv_aload_n hx hb dX0_wholeOf_67 rfl (lv_at hl 3 rfl) ?_
        refine lv_lload hx hb dX0_wholeOf_68 (lv_at hl 0 rfl) ?_
        refine lv_lload_n hx hb dX0_wholeOf_70 rfl (lv_at hl 4 rfl) ?_
        refine pc_V (i := i) (As := [.long (fX0_wholeOfPart i x1 x3), .long x1]) (rest := []) (r := .long (fX0_withSideOf i (fX0_wholeOfPart i x1 x3) x1)) ⟨hx, hb, hml, hown, hts⟩ (c_X0_withSideOf l ad i hi (fX0_wholeOfPart i x1 x3) x1) (cwV 2 hts gX0_wholeOf_X0_withSideOf rfl rfl rfl hd_X0_withSideOf ⟨Nat.le_of_ble_eq_true rfl, Nat.le_of_ble_eq_true rfl⟩) hKC hS hi rfl hl.1 rfl (lv_room (Nat.le_of_ble_eq_true rfl)) dX0_wholeOf_71 ⟨Nat.zero_le _, Nat.zero_le _⟩ ?_
        exact W.lret hx hb hr (fun t ht _ => ⟨congrArg (fun z => Outcome.returned (some (Value.long z))) (by subst e_v18_1; unfold fX0_wholeOf; dsimp only; rw [if_neg c_2, if_pos c_3, if_neg c_4]), ht⟩) (fun _ h => nomatch h) dX0_wholeOf_74
    · refine lv_lload_n hx hb dX0_wholeOf_36 rfl (lv_at hl 3 rfl) ?_
      exact W.lret hx hb hr (fun t ht _ => ⟨congrArg (fun z => Outcome.returned (some (Value.long z))) (by subst e_v18_1; unfold fX0_wholeOf; dsimp only; rw [if_neg c_2, if_neg c_3]), ht⟩) (fun _ h => nomatch h) dX0_wholeOf_37
def fX0_sumByLarger (i : Nat) (x1 : Int64) (x3 : Int64) : Int64 :=
  if (fX0_sizeOf i x1) = (kInf i) then
    x1
  else
    let v42_2 : Int64 := (fX0_significandOf i (fX0_sizeOf i x1)) <<< ((3 : Int32).toInt64 &&& 63)
    let v64_3 : Int64 := fX0_shiftedDown ((fX0_significandOf i (fX0_sizeOf i x3)) <<< ((3 : Int32).toInt64 &&& 63)) ((fX0_exponentOf i (fX0_sizeOf i x1)) - (fX0_exponentOf i (fX0_sizeOf i x3)))
    if (0 : Int64) ≤ x1 then
      if (0 : Int64) ≤ x3 then
        if (v42_2 + v64_3) = (0 : Int64) then
          x1
        else
          fX0_withSideOf i (fX0_sizeFrom i (v42_2 + v64_3) (fX0_exponentOf i (fX0_sizeOf i x1))) x1
      else
        if (v42_2 - v64_3) = (0 : Int64) then
          (0 : Int64)
        else
          fX0_withSideOf i (fX0_sizeFrom i (v42_2 - v64_3) (fX0_exponentOf i (fX0_sizeOf i x1))) x1
    else
      if (0 : Int64) ≤ x3 then
        if (v42_2 - v64_3) = (0 : Int64) then
          (0 : Int64)
        else
          fX0_withSideOf i (fX0_sizeFrom i (v42_2 - v64_3) (fX0_exponentOf i (fX0_sizeOf i x1))) x1
      else
        if (v42_2 + v64_3) = (0 : Int64) then
          x1
        else
          fX0_withSideOf i (fX0_sizeFrom i (v42_2 + v64_3) (fX0_exponentOf i (fX0_sizeOf i x1))) x1
theorem hd_X0_sumByLarger : yX0_sumByLarger.cls = RX0 ∧ yX0_sumByLarger.cls ≠ "java/lang/invoke/MethodHandle" ∧ yX0_sumByLarger.cls ≠ "java/lang/invoke/VarHandle" ∧ (parseMethodDescriptor yX0_sumByLarger.desc).map (fun d => d.parameters.length) = some 2 := by decide +kernel
set_option maxHeartbeats 4000000 in
set_option maxRecDepth 100000 in
theorem c_X0_sumByLarger (l : Launch) (ad : Nat → Nat) (i : Nat) (hi : i < 2) (x1 : Int64) (x3 : Int64) : Met l yX0_sumByLarger wsX0_sumByLarger ({ frames := 3, cells := 0, slots := 0, locals := 77 }) (PK ad [.ref (ad i), .long x1, .long x3]) (k2_QcV (.long (fX0_sumByLarger i x1 x3))) 0 0 (fun _ => False) := by
  refine Met.ofW (cc := cX0_sumByLarger) (maxL := 17) (ret := (some .long)) (by decide) rfl ?_
  intro p e s m args below meth c s₁ B hml hv
  obtain ⟨rfl, hKC⟩ := hv
  have hx := B.exec
  have hb := B.bytes
  have hr := B.returns
  have hts := atoms_spec (ws := wsX0_sumByLarger) B.pre
  have hown : s.vm.findClass RX0 = some m.cls := findClass_of_methodNamed B.named
  have hlocks := B.notSynchronized
  have hS : va_S (fun _ => False) s.heap s.heap [] := va_S.rf
  have hl := lv_entry ([.ref (ad i), .long x1, .long x3]) (n := 17) (Nat.le_of_ble_eq_true rfl)
  rw [lg_entry_eq]
  generalize (lg_sl ([.ref (ad i), .long x1, .long x3]) ++ List.replicate (17 - (lg_sl ([.ref (ad i), .long x1, .long x3])).length) Slot.unset).toArray = ls at hl ⊢
  have hl : lv_has ls 17 [(0, .ref (ad i)), (1, .long x1), (3, .long x3)] := hl
  refine lv_aload_n hx hb dX0_sumByLarger_0 rfl (lv_at hl 0 rfl) ?_
  refine lv_lload_n hx hb dX0_sumByLarger_1 rfl (lv_at hl 1 rfl) ?_
  refine pc_V (i := i) (As := [.long x1]) (rest := []) (r := .long (fX0_sizeOf i x1)) ⟨hx, hb, hml, hown, hts⟩ (c_X0_sizeOf l ad i hi x1) (cwV 1 hts gX0_sumByLarger_X0_sizeOf rfl rfl rfl hd_X0_sizeOf ⟨Nat.le_of_ble_eq_true rfl, Nat.le_of_ble_eq_true rfl⟩) hKC hS hi rfl hl.1 rfl (lv_room (Nat.le_of_ble_eq_true rfl)) dX0_sumByLarger_2 ⟨Nat.zero_le _, Nat.zero_le _⟩ ?_
  refine lv_lstore (lv' := [(5, .long (fX0_sizeOf i x1)), (0, .ref (ad i)), (1, .long x1), (3, .long x3)]) hx hb dX0_sumByLarger_5 hl (by decide) rfl (fun ls hl => ?_)
  refine lv_lload hx hb dX0_sumByLarger_7 (lv_at hl 0 rfl) ?_
  refine lv_aload_n hx hb dX0_sumByLarger_9 rfl (lv_at hl 1 rfl) ?_
  refine pk_inf hx hb hKC hi hS hown (hts (.fieldLink RX0 48 "NeedleBoard$Kind" "infinity" "J") (by decide +kernel)) dX0_sumByLarger_10 ?_
  refine pl_ne (tgt := 19) hx hb dX0_sumByLarger_13 dX0_sumByLarger_14 (by decide) (fun c_1 => ?_) (fun c_1 => ?_)
  · refine lv_aload_n hx hb dX0_sumByLarger_19 rfl (lv_at hl 1 rfl) ?_
    refine lv_lload_n hx hb dX0_sumByLarger_20 rfl (lv_at hl 3 rfl) ?_
    refine pc_V (i := i) (As := [.long x3]) (rest := []) (r := .long (fX0_sizeOf i x3)) ⟨hx, hb, hml, hown, hts⟩ (c_X0_sizeOf l ad i hi x3) (cwV 1 hts gX0_sumByLarger_X0_sizeOf rfl rfl rfl hd_X0_sizeOf ⟨Nat.le_of_ble_eq_true rfl, Nat.le_of_ble_eq_true rfl⟩) hKC hS hi rfl hl.1 rfl (lv_room (Nat.le_of_ble_eq_true rfl)) dX0_sumByLarger_21 ⟨Nat.zero_le _, Nat.zero_le _⟩ ?_
    refine lv_lstore (lv' := [(7, .long (fX0_sizeOf i x3)), (5, .long (fX0_sizeOf i x1)), (0, .ref (ad i)), (1, .long x1), (3, .long x3)]) hx hb dX0_sumByLarger_24 hl (by decide) rfl (fun ls hl => ?_)
    refine lv_aload_n hx hb dX0_sumByLarger_26 rfl (lv_at hl 2 rfl) ?_
    refine lv_lload hx hb dX0_sumByLarger_27 (lv_at hl 1 rfl) ?_
    refine pc_V (i := i) (As := [.long (fX0_sizeOf i x1)]) (rest := []) (r := .int (fX0_exponentOf i (fX0_sizeOf i x1))) ⟨hx, hb, hml, hown, hts⟩ (c_X0_exponentOf l ad i hi (fX0_sizeOf i x1)) (cwV 1 hts gX0_sumByLarger_X0_exponentOf rfl rfl rfl hd_X0_exponentOf ⟨Nat.le_of_ble_eq_true rfl, Nat.le_of_ble_eq_true rfl⟩) hKC hS hi rfl hl.1 rfl (lv_room (Nat.le_of_ble_eq_true rfl)) dX0_sumByLarger_29 ⟨Nat.zero_le _, Nat.zero_le _⟩ ?_
    refine lv_istore (lv' := [(9, .int (fX0_exponentOf i (fX0_sizeOf i x1))), (7, .long (fX0_sizeOf i x3)), (5, .long (fX0_sizeOf i x1)), (0, .ref (ad i)), (1, .long x1), (3, .long x3)]) hx hb dX0_sumByLarger_32 hl (by decide) rfl (fun ls hl => ?_)
    refine lv_aload_n hx hb dX0_sumByLarger_34 rfl (lv_at hl 3 rfl) ?_
    refine lv_lload hx hb dX0_sumByLarger_35 (lv_at hl 2 rfl) ?_
    refine pc_V (i := i) (As := [.long (fX0_sizeOf i x1)]) (rest := []) (r := .long (fX0_significandOf i (fX0_sizeOf i x1))) ⟨hx, hb, hml, hown, hts⟩ (c_X0_significandOf l ad i hi (fX0_sizeOf i x1)) (cwV 1 hts gX0_sumByLarger_X0_significandOf rfl rfl rfl hd_X0_significandOf ⟨Nat.le_of_ble_eq_true rfl, Nat.le_of_ble_eq_true rfl⟩) hKC hS hi rfl hl.1 rfl (lv_room (Nat.le_of_ble_eq_true rfl)) dX0_sumByLarger_37 ⟨Nat.zero_le _, Nat.zero_le _⟩ ?_
    refine lv_iconst (v := 3) hx hb dX0_sumByLarger_40 (by decide) ?_
    refine lv_lshl hx hb dX0_sumByLarger_41 rfl ?_
    refine lv_topl (fun v42_2 e_v42_2 => ?_)
    refine lv_lstore (lv' := [(10, .long v42_2), (9, .int (fX0_exponentOf i (fX0_sizeOf i x1))), (7, .long (fX0_sizeOf i x3)), (5, .long (fX0_sizeOf i x1)), (0, .ref (ad i)), (1, .long x1), (3, .long x3)]) hx hb dX0_sumByLarger_42 hl (by decide) rfl (fun ls hl => ?_)
    refine lv_aload_n hx hb dX0_sumByLarger_44 rfl (lv_at hl 4 rfl) ?_
    refine lv_lload hx hb dX0_sumByLarger_45 (lv_at hl 2 rfl) ?_
    refine pc_V (i := i) (As := [.long (fX0_sizeOf i x3)]) (rest := []) (r := .long (fX0_significandOf i (fX0_sizeOf i x3))) ⟨hx, hb, hml, hown, hts⟩ (c_X0_significandOf l ad i hi (fX0_sizeOf i x3)) (cwV 1 hts gX0_sumByLarger_X0_significandOf rfl rfl rfl hd_X0_significandOf ⟨Nat.le_of_ble_eq_true rfl, Nat.le_of_ble_eq_true rfl⟩) hKC hS hi rfl hl.1 rfl (lv_room (Nat.le_of_ble_eq_true rfl)) dX0_sumByLarger_47 ⟨Nat.zero_le _, Nat.zero_le _⟩ ?_
    refine lv_iconst (v := 3) hx hb dX0_sumByLarger_50 (by decide) ?_
    refine lv_lshl hx hb dX0_sumByLarger_51 rfl ?_
    refine lv_iload hx hb dX0_sumByLarger_52 (lv_at hl 1 rfl) ?_
    refine lv_aload_n hx hb dX0_sumByLarger_54 rfl (lv_at hl 4 rfl) ?_
    refine lv_lload hx hb dX0_sumByLarger_55 (lv_at hl 2 rfl) ?_
    refine pc_V (i := i) (As := [.long (fX0_sizeOf i x3)]) (rest := [.int (fX0_exponentOf i (fX0_sizeOf i x1)), .long ((fX0_significandOf i (fX0_sizeOf i x3)) <<< ((3 : Int32).toInt64 &&& 63))]) (r := .int (fX0_exponentOf i (fX0_sizeOf i x3))) ⟨hx, hb, hml, hown, hts⟩ (c_X0_exponentOf l ad i hi (fX0_sizeOf i x3)) (cwV 1 hts gX0_sumByLarger_X0_exponentOf rfl rfl rfl hd_X0_exponentOf ⟨Nat.le_of_ble_eq_true rfl, Nat.le_of_ble_eq_true rfl⟩) hKC hS hi rfl hl.1 rfl (lv_room (Nat.le_of_ble_eq_true rfl)) dX0_sumByLarger_57 ⟨Nat.zero_le _, Nat.zero_le _⟩ ?_
    refine lv_isub hx hb dX0_sumByLarger_60 ?_
    refine pc_0 (As := [.long ((fX0_significandOf i (fX0_sizeOf i x3)) <<< ((3 : Int32).toInt64 &&& 63)), .int ((fX0_exponentOf i (fX0_sizeOf i x1)) - (fX0_exponentOf i (fX0_sizeOf i x3)))]) (rest := []) (r := .long (fX0_shiftedDown ((fX0_significandOf i (fX0_sizeOf i x3)) <<< ((3 : Int32).toInt64 &&& 63)) ((fX0_exponentOf i (fX0_sizeOf i x1)) - (fX0_exponentOf i (fX0_sizeOf i x3))))) ⟨hx, hb, hml, hown, hts⟩ (c_X0_shiftedDown l ((fX0_significandOf i (fX0_sizeOf i x3)) <<< ((3 : Int32).toInt64 &&& 63)) ((fX0_exponentOf i (fX0_sizeOf i x1)) - (fX0_exponentOf i (fX0_sizeOf i x3)))) (va_cwS 2 hts gX0_sumByLarger_X0_shiftedDown rfl rfl rfl hd_X0_shiftedDown ⟨Nat.le_of_ble_eq_true rfl, Nat.le_of_ble_eq_true rfl⟩) rfl hl.1 rfl (lv_room (Nat.le_of_ble_eq_true rfl)) dX0_sumByLarger_61 ⟨Nat.zero_le _, Nat.zero_le _⟩ ?_
    refine lv_topl (fun v64_3 e_v64_3 => ?_)
    refine lv_lstore (lv' := [(12, .long v64_3), (10, .long v42_2), (9, .int (fX0_exponentOf i (fX0_sizeOf i x1))), (7, .long (fX0_sizeOf i x3)), (5, .long (fX0_sizeOf i x1)), (0, .ref (ad i)), (1, .long x1), (3, .long x3)]) hx hb dX0_sumByLarger_64 hl (by decide) rfl (fun ls hl => ?_)
    refine lv_lload_n hx hb dX0_sumByLarger_66 rfl (lv_at hl 6 rfl) ?_
    refine lv_lconst (v := 0) hx hb dX0_sumByLarger_67 (by decide) ?_
    refine pl_ge (tgt := 76) hx hb dX0_sumByLarger_68 dX0_sumByLarger_69 (by decide) (fun c_4 => ?_) (fun c_4 => ?_)
    · refine lv_iconst (v := 0) hx hb dX0_sumByLarger_76 (by decide) ?_
      refine lv_lload_n hx hb dX0_sumByLarger_77 rfl (lv_at hl 7 rfl) ?_
      refine lv_lconst (v := 0) hx hb dX0_sumByLarger_78 (by decide) ?_
      refine pl_ge (tgt := 87) hx hb dX0_sumByLarger_79 dX0_sumByLarger_80 (by decide) (fun c_5 => ?_) (fun c_5 => ?_)
      · refine lv_iconst (v := 0) hx hb dX0_sumByLarger_87 (by decide) ?_
        refine lv_icmp_ne (tgt := 95) hx hb dX0_sumByLarger_88 (by decide) (fun h9 => absurd h9 (by decide)) (fun _ => ?_)
        refine lv_iconst (v := 1) hx hb dX0_sumByLarger_91 (by decide) ?_
        refine lv_goto (tgt := 96) hx hb dX0_sumByLarger_92 (by decide) ?_
        refine lv_istore (lv' := [(14, .int (1 : Int32)), (12, .long v64_3), (10, .long v42_2), (9, .int (fX0_exponentOf i (fX0_sizeOf i x1))), (7, .long (fX0_sizeOf i x3)), (5, .long (fX0_sizeOf i x1)), (0, .ref (ad i)), (1, .long x1), (3, .long x3)]) hx hb dX0_sumByLarger_96 hl (by decide) rfl (fun ls hl => ?_)
        refine lv_iload hx hb dX0_sumByLarger_98 (lv_at hl 0 rfl) ?_
        refine lv_if_eq (tgt := 111) hx hb dX0_sumByLarger_100 (by decide) (fun h9 => absurd h9 (by decide)) (fun _ => ?_)
        refine lv_lload hx hb dX0_sumByLarger_103 (lv_at hl 2 rfl) ?_
        refine lv_lload hx hb dX0_sumByLarger_105 (lv_at hl 1 rfl) ?_
        refine lv_ladd hx hb dX0_sumByLarger_107 ?_
        refine lv_goto (tgt := 116) hx hb dX0_sumByLarger_108 (by decide) ?_
        refine lv_lstore (lv' := [(15, .long (v42_2 + v64_3)), (14, .int (1 : Int32)), (12, .long v64_3), (10, .long v42_2), (9, .int (fX0_exponentOf i (fX0_sizeOf i x1))), (7, .long (fX0_sizeOf i x3)), (5, .long (fX0_sizeOf i x1)), (0, .ref (ad i)), (1, .long x1), (3, .long x3)]) hx hb dX0_sumByLarger_116 hl (by decide) rfl (fun ls hl => ?_)
        refine lv_lload hx hb dX0_sumByLarger_118 (lv_at hl 0 rfl) ?_
        refine lv_lconst (v := 0) hx hb dX0_sumByLarger_120 (by decide) ?_
        refine pl_ne (tgt := 136) hx hb dX0_sumByLarger_121 dX0_sumByLarger_122 (by decide) (fun c_6 => ?_) (fun c_6 => ?_)
        · refine lv_aload_n hx hb dX0_sumByLarger_136 rfl (lv_at hl 7 rfl) ?_
          refine lv_aload_n hx hb dX0_sumByLarger_137 rfl (lv_at hl 7 rfl) ?_
          refine lv_lload hx hb dX0_sumByLarger_138 (lv_at hl 0 rfl) ?_
          refine lv_iload hx hb dX0_sumByLarger_140 (lv_at hl 4 rfl) ?_
          refine pc_V (i := i) (As := [.long (v42_2 + v64_3), .int (fX0_exponentOf i (fX0_sizeOf i x1))]) (rest := [.ref (ad i)]) (r := .long (fX0_sizeFrom i (v42_2 + v64_3) (fX0_exponentOf i (fX0_sizeOf i x1)))) ⟨hx, hb, hml, hown, hts⟩ (c_X0_sizeFrom l ad i hi (v42_2 + v64_3) (fX0_exponentOf i (fX0_sizeOf i x1))) (cwV 2 hts gX0_sumByLarger_X0_sizeFrom rfl rfl rfl hd_X0_sizeFrom ⟨Nat.le_of_ble_eq_true rfl, Nat.le_of_ble_eq_true rfl⟩) hKC hS hi rfl hl.1 rfl (lv_room (Nat.le_of_ble_eq_true rfl)) dX0_sumByLarger_142 ⟨Nat.zero_le _, Nat.zero_le _⟩ ?_
          refine lv_lload_n hx hb dX0_sumByLarger_145 rfl (lv_at hl 8 rfl) ?_
          refine pc_V (i := i) (As := [.long (fX0_sizeFrom i (v42_2 + v64_3) (fX0_exponentOf i (fX0_sizeOf i x1))), .long x1]) (rest := []) (r := .long (fX0_withSideOf i (fX0_sizeFrom i (v42_2 + v64_3) (fX0_exponentOf i (fX0_sizeOf i x1))) x1)) ⟨hx, hb, hml, hown, hts⟩ (c_X0_withSideOf l ad i hi (fX0_sizeFrom i (v42_2 + v64_3) (fX0_exponentOf i (fX0_sizeOf i x1))) x1) (cwV 2 hts gX0_sumByLarger_X0_withSideOf rfl rfl rfl hd_X0_withSideOf ⟨Nat.le_of_ble_eq_true rfl, Nat.le_of_ble_eq_true rfl⟩) hKC hS hi rfl hl.1 rfl (lv_room (Nat.le_of_ble_eq_true rfl)) dX0_sumByLarger_146 ⟨Nat.zero_le _, Nat.zero_le _⟩ ?_
          exact W.lret hx hb hr (fun t ht _ => ⟨congrArg (fun z => Outcome.returned (some (Value.long z))) (by subst e_v42_2 e_v64_3; unfold fX0_sumByLarger; dsimp only; rw [if_neg c_1, if_pos c_4, if_pos c_5, if_neg c_6]), ht⟩) (fun _ h => nomatch h) dX0_sumByLarger_149
        · refine lv_iload hx hb dX0_sumByLarger_125 (lv_at hl 1 rfl) ?_
          refine lv_if_eq (tgt := 134) hx hb dX0_sumByLarger_127 (by decide) (fun h9 => absurd h9 (by decide)) (fun _ => ?_)
          refine lv_lload_n hx hb dX0_sumByLarger_130 rfl (lv_at hl 8 rfl) ?_
          refine lv_goto (tgt := 135) hx hb dX0_sumByLarger_131 (by decide) ?_
          exact W.lret hx hb hr (fun t ht _ => ⟨congrArg (fun z => Outcome.returned (some (Value.long z))) (by subst e_v42_2 e_v64_3; unfold fX0_sumByLarger; dsimp only; rw [if_neg c_1, if_pos c_4, if_pos c_5, if_pos c_6]), ht⟩) (fun _ h => nomatch h) dX0_sumByLarger_135
      · refine lv_iconst (v := 1) hx hb dX0_sumByLarger_83 (by decide) ?_
        refine lv_goto (tgt := 88) hx hb dX0_sumByLarger_84 (by decide) ?_
        refine lv_icmp_ne (tgt := 95) hx hb dX0_sumByLarger_88 (by decide) (fun _ => ?_) (fun h9 => absurd h9 (by decide))
        refine lv_iconst (v := 0) hx hb dX0_sumByLarger_95 (by decide) ?_
        refine lv_istore (lv' := [(14, .int (0 : Int32)), (12, .long v64_3), (10, .long v42_2), (9, .int (fX0_exponentOf i (fX0_sizeOf i x1))), (7, .long (fX0_sizeOf i x3)), (5, .long (fX0_sizeOf i x1)), (0, .ref (ad i)), (1, .long x1), (3, .long x3)]) hx hb dX0_sumByLarger_96 hl (by decide) rfl (fun ls hl => ?_)
        refine lv_iload hx hb dX0_sumByLarger_98 (lv_at hl 0 rfl) ?_
        refine lv_if_eq (tgt := 111) hx hb dX0_sumByLarger_100 (by decide) (fun _ => ?_) (fun h9 => absurd h9 (by decide))
        refine lv_lload hx hb dX0_sumByLarger_111 (lv_at hl 2 rfl) ?_
        refine lv_lload hx hb dX0_sumByLarger_113 (lv_at hl 1 rfl) ?_
        refine lv_lsub hx hb dX0_sumByLarger_115 ?_
        refine lv_lstore (lv' := [(15, .long (v42_2 - v64_3)), (14, .int (0 : Int32)), (12, .long v64_3), (10, .long v42_2), (9, .int (fX0_exponentOf i (fX0_sizeOf i x1))), (7, .long (fX0_sizeOf i x3)), (5, .long (fX0_sizeOf i x1)), (0, .ref (ad i)), (1, .long x1), (3, .long x3)]) hx hb dX0_sumByLarger_116 hl (by decide) rfl (fun ls hl => ?_)
        refine lv_lload hx hb dX0_sumByLarger_118 (lv_at hl 0 rfl) ?_
        refine lv_lconst (v := 0) hx hb dX0_sumByLarger_120 (by decide) ?_
        refine pl_ne (tgt := 136) hx hb dX0_sumByLarger_121 dX0_sumByLarger_122 (by decide) (fun c_7 => ?_) (fun c_7 => ?_)
        · refine lv_aload_n hx hb dX0_sumByLarger_136 rfl (lv_at hl 7 rfl) ?_
          refine lv_aload_n hx hb dX0_sumByLarger_137 rfl (lv_at hl 7 rfl) ?_
          refine lv_lload hx hb dX0_sumByLarger_138 (lv_at hl 0 rfl) ?_
          refine lv_iload hx hb dX0_sumByLarger_140 (lv_at hl 4 rfl) ?_
          refine pc_V (i := i) (As := [.long (v42_2 - v64_3), .int (fX0_exponentOf i (fX0_sizeOf i x1))]) (rest := [.ref (ad i)]) (r := .long (fX0_sizeFrom i (v42_2 - v64_3) (fX0_exponentOf i (fX0_sizeOf i x1)))) ⟨hx, hb, hml, hown, hts⟩ (c_X0_sizeFrom l ad i hi (v42_2 - v64_3) (fX0_exponentOf i (fX0_sizeOf i x1))) (cwV 2 hts gX0_sumByLarger_X0_sizeFrom rfl rfl rfl hd_X0_sizeFrom ⟨Nat.le_of_ble_eq_true rfl, Nat.le_of_ble_eq_true rfl⟩) hKC hS hi rfl hl.1 rfl (lv_room (Nat.le_of_ble_eq_true rfl)) dX0_sumByLarger_142 ⟨Nat.zero_le _, Nat.zero_le _⟩ ?_
          refine lv_lload_n hx hb dX0_sumByLarger_145 rfl (lv_at hl 8 rfl) ?_
          refine pc_V (i := i) (As := [.long (fX0_sizeFrom i (v42_2 - v64_3) (fX0_exponentOf i (fX0_sizeOf i x1))), .long x1]) (rest := []) (r := .long (fX0_withSideOf i (fX0_sizeFrom i (v42_2 - v64_3) (fX0_exponentOf i (fX0_sizeOf i x1))) x1)) ⟨hx, hb, hml, hown, hts⟩ (c_X0_withSideOf l ad i hi (fX0_sizeFrom i (v42_2 - v64_3) (fX0_exponentOf i (fX0_sizeOf i x1))) x1) (cwV 2 hts gX0_sumByLarger_X0_withSideOf rfl rfl rfl hd_X0_withSideOf ⟨Nat.le_of_ble_eq_true rfl, Nat.le_of_ble_eq_true rfl⟩) hKC hS hi rfl hl.1 rfl (lv_room (Nat.le_of_ble_eq_true rfl)) dX0_sumByLarger_146 ⟨Nat.zero_le _, Nat.zero_le _⟩ ?_
          exact W.lret hx hb hr (fun t ht _ => ⟨congrArg (fun z => Outcome.returned (some (Value.long z))) (by subst e_v42_2 e_v64_3; unfold fX0_sumByLarger; dsimp only; rw [if_neg c_1, if_pos c_4, if_neg c_5, if_neg c_7]), ht⟩) (fun _ h => nomatch h) dX0_sumByLarger_149
        · refine lv_iload hx hb dX0_sumByLarger_125 (lv_at hl 1 rfl) ?_
          refine lv_if_eq (tgt := 134) hx hb dX0_sumByLarger_127 (by decide) (fun _ => ?_) (fun h9 => absurd h9 (by decide))
          refine lv_lconst (v := 0) hx hb dX0_sumByLarger_134 (by decide) ?_
          exact W.lret hx hb hr (fun t ht _ => ⟨congrArg (fun z => Outcome.returned (some (Value.long z))) (by subst e_v42_2 e_v64_3; unfold fX0_sumByLarger; dsimp only; rw [if_neg c_1, if_pos c_4, if_neg c_5, if_pos c_7]), ht⟩) (fun _ h => nomatch h) dX0_sumByLarger_135
    · refine lv_iconst (v := 1) hx hb dX0_sumByLarger_72 (by decide) ?_
      refine lv_goto (tgt := 77) hx hb dX0_sumByLarger_73 (by decide) ?_
      refine lv_lload_n hx hb dX0_sumByLarger_77 rfl (lv_at hl 7 rfl) ?_
      refine lv_lconst (v := 0) hx hb dX0_sumByLarger_78 (by decide) ?_
      refine pl_ge (tgt := 87) hx hb dX0_sumByLarger_79 dX0_sumByLarger_80 (by decide) (fun c_8 => ?_) (fun c_8 => ?_)
      · refine lv_iconst (v := 0) hx hb dX0_sumByLarger_87 (by decide) ?_
        refine lv_icmp_ne (tgt := 95) hx hb dX0_sumByLarger_88 (by decide) (fun _ => ?_) (fun h9 => absurd h9 (by decide))
        refine lv_iconst (v := 0) hx hb dX0_sumByLarger_95 (by decide) ?_
        refine lv_istore (lv' := [(14, .int (0 : Int32)), (12, .long v64_3), (10, .long v42_2), (9, .int (fX0_exponentOf i (fX0_sizeOf i x1))), (7, .long (fX0_sizeOf i x3)), (5, .long (fX0_sizeOf i x1)), (0, .ref (ad i)), (1, .long x1), (3, .long x3)]) hx hb dX0_sumByLarger_96 hl (by decide) rfl (fun ls hl => ?_)
        refine lv_iload hx hb dX0_sumByLarger_98 (lv_at hl 0 rfl) ?_
        refine lv_if_eq (tgt := 111) hx hb dX0_sumByLarger_100 (by decide) (fun _ => ?_) (fun h9 => absurd h9 (by decide))
        refine lv_lload hx hb dX0_sumByLarger_111 (lv_at hl 2 rfl) ?_
        refine lv_lload hx hb dX0_sumByLarger_113 (lv_at hl 1 rfl) ?_
        refine lv_lsub hx hb dX0_sumByLarger_115 ?_
        refine lv_lstore (lv' := [(15, .long (v42_2 - v64_3)), (14, .int (0 : Int32)), (12, .long v64_3), (10, .long v42_2), (9, .int (fX0_exponentOf i (fX0_sizeOf i x1))), (7, .long (fX0_sizeOf i x3)), (5, .long (fX0_sizeOf i x1)), (0, .ref (ad i)), (1, .long x1), (3, .long x3)]) hx hb dX0_sumByLarger_116 hl (by decide) rfl (fun ls hl => ?_)
        refine lv_lload hx hb dX0_sumByLarger_118 (lv_at hl 0 rfl) ?_
        refine lv_lconst (v := 0) hx hb dX0_sumByLarger_120 (by decide) ?_
        refine pl_ne (tgt := 136) hx hb dX0_sumByLarger_121 dX0_sumByLarger_122 (by decide) (fun c_9 => ?_) (fun c_9 => ?_)
        · refine lv_aload_n hx hb dX0_sumByLarger_136 rfl (lv_at hl 7 rfl) ?_
          refine lv_aload_n hx hb dX0_sumByLarger_137 rfl (lv_at hl 7 rfl) ?_
          refine lv_lload hx hb dX0_sumByLarger_138 (lv_at hl 0 rfl) ?_
          refine lv_iload hx hb dX0_sumByLarger_140 (lv_at hl 4 rfl) ?_
          refine pc_V (i := i) (As := [.long (v42_2 - v64_3), .int (fX0_exponentOf i (fX0_sizeOf i x1))]) (rest := [.ref (ad i)]) (r := .long (fX0_sizeFrom i (v42_2 - v64_3) (fX0_exponentOf i (fX0_sizeOf i x1)))) ⟨hx, hb, hml, hown, hts⟩ (c_X0_sizeFrom l ad i hi (v42_2 - v64_3) (fX0_exponentOf i (fX0_sizeOf i x1))) (cwV 2 hts gX0_sumByLarger_X0_sizeFrom rfl rfl rfl hd_X0_sizeFrom ⟨Nat.le_of_ble_eq_true rfl, Nat.le_of_ble_eq_true rfl⟩) hKC hS hi rfl hl.1 rfl (lv_room (Nat.le_of_ble_eq_true rfl)) dX0_sumByLarger_142 ⟨Nat.zero_le _, Nat.zero_le _⟩ ?_
          refine lv_lload_n hx hb dX0_sumByLarger_145 rfl (lv_at hl 8 rfl) ?_
          refine pc_V (i := i) (As := [.long (fX0_sizeFrom i (v42_2 - v64_3) (fX0_exponentOf i (fX0_sizeOf i x1))), .long x1]) (rest := []) (r := .long (fX0_withSideOf i (fX0_sizeFrom i (v42_2 - v64_3) (fX0_exponentOf i (fX0_sizeOf i x1))) x1)) ⟨hx, hb, hml, hown, hts⟩ (c_X0_withSideOf l ad i hi (fX0_sizeFrom i (v42_2 - v64_3) (fX0_exponentOf i (fX0_sizeOf i x1))) x1) (cwV 2 hts gX0_sumByLarger_X0_withSideOf rfl rfl rfl hd_X0_withSideOf ⟨Nat.le_of_ble_eq_true rfl, Nat.le_of_ble_eq_true rfl⟩) hKC hS hi rfl hl.1 rfl (lv_room (Nat.le_of_ble_eq_true rfl)) dX0_sumByLarger_146 ⟨Nat.zero_le _, Nat.zero_le _⟩ ?_
          exact W.lret hx hb hr (fun t ht _ => ⟨congrArg (fun z => Outcome.returned (some (Value.long z))) (by subst e_v42_2 e_v64_3; unfold fX0_sumByLarger; dsimp only; rw [if_neg c_1, if_neg c_4, if_pos c_8, if_neg c_9]), ht⟩) (fun _ h => nomatch h) dX0_sumByLarger_149
        · refine lv_iload hx hb dX0_sumByLarger_125 (lv_at hl 1 rfl) ?_
          refine lv_if_eq (tgt := 134) hx hb dX0_sumByLarger_127 (by decide) (fun _ => ?_) (fun h9 => absurd h9 (by decide))
          refine lv_lconst (v := 0) hx hb dX0_sumByLarger_134 (by decide) ?_
          exact W.lret hx hb hr (fun t ht _ => ⟨congrArg (fun z => Outcome.returned (some (Value.long z))) (by subst e_v42_2 e_v64_3; unfold fX0_sumByLarger; dsimp only; rw [if_neg c_1, if_neg c_4, if_pos c_8, if_pos c_9]), ht⟩) (fun _ h => nomatch h) dX0_sumByLarger_135
      · refine lv_iconst (v := 1) hx hb dX0_sumByLarger_83 (by decide) ?_
        refine lv_goto (tgt := 88) hx hb dX0_sumByLarger_84 (by decide) ?_
        refine lv_icmp_ne (tgt := 95) hx hb dX0_sumByLarger_88 (by decide) (fun h9 => absurd h9 (by decide)) (fun _ => ?_)
        refine lv_iconst (v := 1) hx hb dX0_sumByLarger_91 (by decide) ?_
        refine lv_goto (tgt := 96) hx hb dX0_sumByLarger_92 (by decide) ?_
        refine lv_istore (lv' := [(14, .int (1 : Int32)), (12, .long v64_3), (10, .long v42_2), (9, .int (fX0_exponentOf i (fX0_sizeOf i x1))), (7, .long (fX0_sizeOf i x3)), (5, .long (fX0_sizeOf i x1)), (0, .ref (ad i)), (1, .long x1), (3, .long x3)]) hx hb dX0_sumByLarger_96 hl (by decide) rfl (fun ls hl => ?_)
        refine lv_iload hx hb dX0_sumByLarger_98 (lv_at hl 0 rfl) ?_
        refine lv_if_eq (tgt := 111) hx hb dX0_sumByLarger_100 (by decide) (fun h9 => absurd h9 (by decide)) (fun _ => ?_)
        refine lv_lload hx hb dX0_sumByLarger_103 (lv_at hl 2 rfl) ?_
        refine lv_lload hx hb dX0_sumByLarger_105 (lv_at hl 1 rfl) ?_
        refine lv_ladd hx hb dX0_sumByLarger_107 ?_
        refine lv_goto (tgt := 116) hx hb dX0_sumByLarger_108 (by decide) ?_
        refine lv_lstore (lv' := [(15, .long (v42_2 + v64_3)), (14, .int (1 : Int32)), (12, .long v64_3), (10, .long v42_2), (9, .int (fX0_exponentOf i (fX0_sizeOf i x1))), (7, .long (fX0_sizeOf i x3)), (5, .long (fX0_sizeOf i x1)), (0, .ref (ad i)), (1, .long x1), (3, .long x3)]) hx hb dX0_sumByLarger_116 hl (by decide) rfl (fun ls hl => ?_)
        refine lv_lload hx hb dX0_sumByLarger_118 (lv_at hl 0 rfl) ?_
        refine lv_lconst (v := 0) hx hb dX0_sumByLarger_120 (by decide) ?_
        refine pl_ne (tgt := 136) hx hb dX0_sumByLarger_121 dX0_sumByLarger_122 (by decide) (fun c_10 => ?_) (fun c_10 => ?_)
        · refine lv_aload_n hx hb dX0_sumByLarger_136 rfl (lv_at hl 7 rfl) ?_
          refine lv_aload_n hx hb dX0_sumByLarger_137 rfl (lv_at hl 7 rfl) ?_
          refine lv_lload hx hb dX0_sumByLarger_138 (lv_at hl 0 rfl) ?_
          refine lv_iload hx hb dX0_sumByLarger_140 (lv_at hl 4 rfl) ?_
          refine pc_V (i := i) (As := [.long (v42_2 + v64_3), .int (fX0_exponentOf i (fX0_sizeOf i x1))]) (rest := [.ref (ad i)]) (r := .long (fX0_sizeFrom i (v42_2 + v64_3) (fX0_exponentOf i (fX0_sizeOf i x1)))) ⟨hx, hb, hml, hown, hts⟩ (c_X0_sizeFrom l ad i hi (v42_2 + v64_3) (fX0_exponentOf i (fX0_sizeOf i x1))) (cwV 2 hts gX0_sumByLarger_X0_sizeFrom rfl rfl rfl hd_X0_sizeFrom ⟨Nat.le_of_ble_eq_true rfl, Nat.le_of_ble_eq_true rfl⟩) hKC hS hi rfl hl.1 rfl (lv_room (Nat.le_of_ble_eq_true rfl)) dX0_sumByLarger_142 ⟨Nat.zero_le _, Nat.zero_le _⟩ ?_
          refine lv_lload_n hx hb dX0_sumByLarger_145 rfl (lv_at hl 8 rfl) ?_
          refine pc_V (i := i) (As := [.long (fX0_sizeFrom i (v42_2 + v64_3) (fX0_exponentOf i (fX0_sizeOf i x1))), .long x1]) (rest := []) (r := .long (fX0_withSideOf i (fX0_sizeFrom i (v42_2 + v64_3) (fX0_exponentOf i (fX0_sizeOf i x1))) x1)) ⟨hx, hb, hml, hown, hts⟩ (c_X0_withSideOf l ad i hi (fX0_sizeFrom i (v42_2 + v64_3) (fX0_exponentOf i (fX0_sizeOf i x1))) x1) (cwV 2 hts gX0_sumByLarger_X0_withSideOf rfl rfl rfl hd_X0_withSideOf ⟨Nat.le_of_ble_eq_true rfl, Nat.le_of_ble_eq_true rfl⟩) hKC hS hi rfl hl.1 rfl (lv_room (Nat.le_of_ble_eq_true rfl)) dX0_sumByLarger_146 ⟨Nat.zero_le _, Nat.zero_le _⟩ ?_
          exact W.lret hx hb hr (fun t ht _ => ⟨congrArg (fun z => Outcome.returned (some (Value.long z))) (by subst e_v42_2 e_v64_3; unfold fX0_sumByLarger; dsimp only; rw [if_neg c_1, if_neg c_4, if_neg c_8, if_neg c_10]), ht⟩) (fun _ h => nomatch h) dX0_sumByLarger_149
        · refine lv_iload hx hb dX0_sumByLarger_125 (lv_at hl 1 rfl) ?_
          refine lv_if_eq (tgt := 134) hx hb dX0_sumByLarger_127 (by decide) (fun h9 => absurd h9 (by decide)) (fun _ => ?_)
          refine lv_lload_n hx hb dX0_sumByLarger_130 rfl (lv_at hl 8 rfl) ?_
          refine lv_goto (tgt := 135) hx hb dX0_sumByLarger_131 (by decide) ?_
          exact W.lret hx hb hr (fun t ht _ => ⟨congrArg (fun z => Outcome.returned (some (Value.long z))) (by subst e_v42_2 e_v64_3; unfold fX0_sumByLarger; dsimp only; rw [if_neg c_1, if_neg c_4, if_neg c_8, if_pos c_10]), ht⟩) (fun _ h => nomatch h) dX0_sumByLarger_135
  · refine lv_lload_n hx hb dX0_sumByLarger_17 rfl (lv_at hl 2 rfl) ?_
    exact W.lret hx hb hr (fun t ht _ => ⟨congrArg (fun z => Outcome.returned (some (Value.long z))) (by unfold fX0_sumByLarger; rw [if_pos c_1]), ht⟩) (fun _ h => nomatch h) dX0_sumByLarger_18
def fX0_sum (i : Nat) (x1 : Int64) (x3 : Int64) : Int64 :=
  if (fX0_sizeOf i x3) ≤ (fX0_sizeOf i x1) then
    fX0_sumByLarger i x1 x3
  else
    fX0_sumByLarger i x3 x1
theorem hd_X0_sum : yX0_sum.cls = RX0 ∧ yX0_sum.cls ≠ "java/lang/invoke/MethodHandle" ∧ yX0_sum.cls ≠ "java/lang/invoke/VarHandle" ∧ (parseMethodDescriptor yX0_sum.desc).map (fun d => d.parameters.length) = some 2 := by decide +kernel
set_option maxHeartbeats 4000000 in
set_option maxRecDepth 100000 in
theorem c_X0_sum (l : Launch) (ad : Nat → Nat) (i : Nat) (hi : i < 2) (x1 : Int64) (x3 : Int64) : Met l yX0_sum wsX0_sum ({ frames := 4, cells := 0, slots := 0, locals := 113 }) (PK ad [.ref (ad i), .long x1, .long x3]) (k2_QcV (.long (fX0_sum i x1 x3))) 0 0 (fun _ => False) := by
  refine Met.ofW (cc := cX0_sum) (maxL := 5) (ret := (some .long)) (by decide) rfl ?_
  intro p e s m args below meth c s₁ B hml hv
  obtain ⟨rfl, hKC⟩ := hv
  have hx := B.exec
  have hb := B.bytes
  have hr := B.returns
  have hts := atoms_spec (ws := wsX0_sum) B.pre
  have hown : s.vm.findClass RX0 = some m.cls := findClass_of_methodNamed B.named
  have hlocks := B.notSynchronized
  have hS : va_S (fun _ => False) s.heap s.heap [] := va_S.rf
  have hl := lv_entry ([.ref (ad i), .long x1, .long x3]) (n := 5) (Nat.le_of_ble_eq_true rfl)
  rw [lg_entry_eq]
  generalize (lg_sl ([.ref (ad i), .long x1, .long x3]) ++ List.replicate (5 - (lg_sl ([.ref (ad i), .long x1, .long x3])).length) Slot.unset).toArray = ls at hl ⊢
  have hl : lv_has ls 5 [(0, .ref (ad i)), (1, .long x1), (3, .long x3)] := hl
  refine lv_aload_n hx hb dX0_sum_0 rfl (lv_at hl 0 rfl) ?_
  refine lv_lload_n hx hb dX0_sum_1 rfl (lv_at hl 1 rfl) ?_
  refine pc_V (i := i) (As := [.long x1]) (rest := []) (r := .long (fX0_sizeOf i x1)) ⟨hx, hb, hml, hown, hts⟩ (c_X0_sizeOf l ad i hi x1) (cwV 1 hts gX0_sum_X0_sizeOf rfl rfl rfl hd_X0_sizeOf ⟨Nat.le_of_ble_eq_true rfl, Nat.le_of_ble_eq_true rfl⟩) hKC hS hi rfl hl.1 rfl (lv_room (Nat.le_of_ble_eq_true rfl)) dX0_sum_2 ⟨Nat.zero_le _, Nat.zero_le _⟩ ?_
  refine lv_aload_n hx hb dX0_sum_5 rfl (lv_at hl 0 rfl) ?_
  refine lv_lload_n hx hb dX0_sum_6 rfl (lv_at hl 2 rfl) ?_
  refine pc_V (i := i) (As := [.long x3]) (rest := [.long (fX0_sizeOf i x1)]) (r := .long (fX0_sizeOf i x3)) ⟨hx, hb, hml, hown, hts⟩ (c_X0_sizeOf l ad i hi x3) (cwV 1 hts gX0_sum_X0_sizeOf rfl rfl rfl hd_X0_sizeOf ⟨Nat.le_of_ble_eq_true rfl, Nat.le_of_ble_eq_true rfl⟩) hKC hS hi rfl hl.1 rfl (lv_room (Nat.le_of_ble_eq_true rfl)) dX0_sum_7 ⟨Nat.zero_le _, Nat.zero_le _⟩ ?_
  refine pl_ge (tgt := 23) hx hb dX0_sum_10 dX0_sum_11 (by decide) (fun c_1 => ?_) (fun c_1 => ?_)
  · refine lv_aload_n hx hb dX0_sum_23 rfl (lv_at hl 0 rfl) ?_
    refine lv_lload_n hx hb dX0_sum_24 rfl (lv_at hl 1 rfl) ?_
    refine lv_lload_n hx hb dX0_sum_25 rfl (lv_at hl 2 rfl) ?_
    refine pc_V (i := i) (As := [.long x1, .long x3]) (rest := []) (r := .long (fX0_sumByLarger i x1 x3)) ⟨hx, hb, hml, hown, hts⟩ (c_X0_sumByLarger l ad i hi x1 x3) (cwV 2 hts gX0_sum_X0_sumByLarger rfl rfl rfl hd_X0_sumByLarger ⟨Nat.le_of_ble_eq_true rfl, Nat.le_of_ble_eq_true rfl⟩) hKC hS hi rfl hl.1 rfl (lv_room (Nat.le_of_ble_eq_true rfl)) dX0_sum_26 ⟨Nat.zero_le _, Nat.zero_le _⟩ ?_
    exact W.lret hx hb hr (fun t ht _ => ⟨congrArg (fun z => Outcome.returned (some (Value.long z))) (by unfold fX0_sum; rw [if_pos c_1]), ht⟩) (fun _ h => nomatch h) dX0_sum_29
  · refine lv_aload_n hx hb dX0_sum_14 rfl (lv_at hl 0 rfl) ?_
    refine lv_lload_n hx hb dX0_sum_15 rfl (lv_at hl 2 rfl) ?_
    refine lv_lload_n hx hb dX0_sum_16 rfl (lv_at hl 1 rfl) ?_
    refine pc_V (i := i) (As := [.long x3, .long x1]) (rest := []) (r := .long (fX0_sumByLarger i x3 x1)) ⟨hx, hb, hml, hown, hts⟩ (c_X0_sumByLarger l ad i hi x3 x1) (cwV 2 hts gX0_sum_X0_sumByLarger rfl rfl rfl hd_X0_sumByLarger ⟨Nat.le_of_ble_eq_true rfl, Nat.le_of_ble_eq_true rfl⟩) hKC hS hi rfl hl.1 rfl (lv_room (Nat.le_of_ble_eq_true rfl)) dX0_sum_17 ⟨Nat.zero_le _, Nat.zero_le _⟩ ?_
    refine lv_goto (tgt := 29) hx hb dX0_sum_20 (by decide) ?_
    exact W.lret hx hb hr (fun t ht _ => ⟨congrArg (fun z => Outcome.returned (some (Value.long z))) (by unfold fX0_sum; rw [if_neg c_1]), ht⟩) (fun _ h => nomatch h) dX0_sum_29
def fX0_fineFromCoarse (x0 : Int64) : Int64 :=
  if (fX0_sizeOf 1 x0) = (0 : Int64) then
    fX0_withSideOf 0 (0 : Int64) x0
  else
    if (fX0_sizeOf 1 x0) = (kInf 1) then
      fX0_withSideOf 0 (kInf 0) x0
    else
      let v80_3 : Int32 := ((fX0_exponentOf 1 (fX0_sizeOf 1 x0)) - (kBias 1)) + (kBias 0)
      let v100_4 : Int64 := fX0_sizeFrom 0 ((fX0_significandOf 1 (fX0_sizeOf 1 x0)) <<< ((((kFrac 0) - (kFrac 1)) + (3 : Int32)).toInt64 &&& 63)) v80_3
      fX0_withSideOf 0 v100_4 x0
theorem hd_X0_fineFromCoarse : yX0_fineFromCoarse.cls ≠ "java/lang/invoke/MethodHandle" ∧ yX0_fineFromCoarse.cls ≠ "java/lang/invoke/VarHandle" ∧ (parseMethodDescriptor yX0_fineFromCoarse.desc).map (fun d => d.parameters.length) = some 1 := by decide +kernel
set_option maxHeartbeats 4000000 in
set_option maxRecDepth 100000 in
theorem c_X0_fineFromCoarse (l : Launch) (ad : Nat → Nat) (x0 : Int64) : Met l yX0_fineFromCoarse wsX0_fineFromCoarse ({ frames := 3, cells := 0, slots := 0, locals := 77 }) (PK ad [.long x0]) (k2_QcV (.long (fX0_fineFromCoarse x0))) 0 0 (fun _ => False) := by
  refine Met.ofW (cc := cX0_fineFromCoarse) (maxL := 8) (ret := (some .long)) (by decide) rfl ?_
  intro p e s m args below meth c s₁ B hml hv
  obtain ⟨rfl, hKC⟩ := hv
  have hx := B.exec
  have hb := B.bytes
  have hr := B.returns
  have hts := atoms_spec (ws := wsX0_fineFromCoarse) B.pre
  have hown : s.vm.findClass RX0 = some m.cls := findClass_of_methodNamed B.named
  have hlocks := B.notSynchronized
  have hS : va_S (fun _ => False) s.heap s.heap [] := va_S.rf
  have hl := lv_entry ([.long x0]) (n := 8) (Nat.le_of_ble_eq_true rfl)
  rw [lg_entry_eq]
  generalize (lg_sl ([.long x0]) ++ List.replicate (8 - (lg_sl ([.long x0])).length) Slot.unset).toArray = ls at hl ⊢
  have hl : lv_has ls 8 [(0, .long x0)] := hl
  refine pk_coarse hx hb hKC hS hown (hts (.fieldLink RX0 7 "NeedleBoard$Kind" "COARSE" "LNeedleBoard$Kind;") (by decide +kernel)) dX0_fineFromCoarse_0 ?_
  refine lv_lload_n hx hb dX0_fineFromCoarse_3 rfl (lv_at hl 0 rfl) ?_
  refine pc_V (i := 1) (As := [.long x0]) (rest := []) (r := .long (fX0_sizeOf 1 x0)) ⟨hx, hb, hml, hown, hts⟩ (c_X0_sizeOf l ad 1 (by decide) x0) (cwV 1 hts gX0_fineFromCoarse_X0_sizeOf rfl rfl rfl hd_X0_sizeOf ⟨Nat.le_of_ble_eq_true rfl, Nat.le_of_ble_eq_true rfl⟩) hKC hS (by decide) rfl hl.1 rfl (lv_room (Nat.le_of_ble_eq_true rfl)) dX0_fineFromCoarse_4 ⟨Nat.zero_le _, Nat.zero_le _⟩ ?_
  refine lv_lstore_n (lv' := [(2, .long (fX0_sizeOf 1 x0)), (0, .long x0)]) hx hb dX0_fineFromCoarse_7 rfl hl (by decide) rfl (fun ls hl => ?_)
  refine lv_lload_n hx hb dX0_fineFromCoarse_8 rfl (lv_at hl 0 rfl) ?_
  refine lv_lconst (v := 0) hx hb dX0_fineFromCoarse_9 (by decide) ?_
  refine pl_ne (tgt := 20) hx hb dX0_fineFromCoarse_10 dX0_fineFromCoarse_11 (by decide) (fun c_1 => ?_) (fun c_1 => ?_)
  · refine lv_lload_n hx hb dX0_fineFromCoarse_20 rfl (lv_at hl 0 rfl) ?_
    refine pk_coarse hx hb hKC hS hown (hts (.fieldLink RX0 7 "NeedleBoard$Kind" "COARSE" "LNeedleBoard$Kind;") (by decide +kernel)) dX0_fineFromCoarse_21 ?_
    refine pk_inf hx hb hKC (by decide) hS hown (hts (.fieldLink RX0 48 "NeedleBoard$Kind" "infinity" "J") (by decide +kernel)) dX0_fineFromCoarse_24 ?_
    refine pl_ne (tgt := 42) hx hb dX0_fineFromCoarse_27 dX0_fineFromCoarse_28 (by decide) (fun c_2 => ?_) (fun c_2 => ?_)
    · refine pk_fine hx hb hKC hS hown (hts (.fieldLink RX0 3 "NeedleBoard$Kind" "FINE" "LNeedleBoard$Kind;") (by decide +kernel)) dX0_fineFromCoarse_42 ?_
      refine pk_frac hx hb hKC (by decide) hS hown (hts (.fieldLink RX0 29 "NeedleBoard$Kind" "fractionBits" "I") (by decide +kernel)) dX0_fineFromCoarse_45 ?_
      refine pk_coarse hx hb hKC hS hown (hts (.fieldLink RX0 7 "NeedleBoard$Kind" "COARSE" "LNeedleBoard$Kind;") (by decide +kernel)) dX0_fineFromCoarse_48 ?_
      refine pk_frac hx hb hKC (by decide) hS hown (hts (.fieldLink RX0 29 "NeedleBoard$Kind" "fractionBits" "I") (by decide +kernel)) dX0_fineFromCoarse_51 ?_
      refine lv_isub hx hb dX0_fineFromCoarse_54 ?_
      refine lv_iconst (v := 3) hx hb dX0_fineFromCoarse_55 (by decide) ?_
      refine lv_iadd hx hb dX0_fineFromCoarse_56 ?_
      refine lv_istore (lv' := [(6, .int (((kFrac 0) - (kFrac 1)) + (3 : Int32))), (2, .long (fX0_sizeOf 1 x0)), (0, .long x0)]) hx hb dX0_fineFromCoarse_57 hl (by decide) rfl (fun ls hl => ?_)
      refine pk_coarse hx hb hKC hS hown (hts (.fieldLink RX0 7 "NeedleBoard$Kind" "COARSE" "LNeedleBoard$Kind;") (by decide +kernel)) dX0_fineFromCoarse_59 ?_
      refine lv_lload_n hx hb dX0_fineFromCoarse_62 rfl (lv_at hl 1 rfl) ?_
      refine pc_V (i := 1) (As := [.long (fX0_sizeOf 1 x0)]) (rest := []) (r := .int (fX0_exponentOf 1 (fX0_sizeOf 1 x0))) ⟨hx, hb, hml, hown, hts⟩ (c_X0_exponentOf l ad 1 (by decide) (fX0_sizeOf 1 x0)) (cwV 1 hts gX0_fineFromCoarse_X0_exponentOf rfl rfl rfl hd_X0_exponentOf ⟨Nat.le_of_ble_eq_true rfl, Nat.le_of_ble_eq_true rfl⟩) hKC hS (by decide) rfl hl.1 rfl (lv_room (Nat.le_of_ble_eq_true rfl)) dX0_fineFromCoarse_63 ⟨Nat.zero_le _, Nat.zero_le _⟩ ?_
      refine pk_coarse hx hb hKC hS hown (hts (.fieldLink RX0 7 "NeedleBoard$Kind" "COARSE" "LNeedleBoard$Kind;") (by decide +kernel)) dX0_fineFromCoarse_66 ?_
      refine pk_bias hx hb hKC (by decide) hS hown (hts (.fieldLink RX0 33 "NeedleBoard$Kind" "bias" "I") (by decide +kernel)) dX0_fineFromCoarse_69 ?_
      refine lv_isub hx hb dX0_fineFromCoarse_72 ?_
      refine pk_fine hx hb hKC hS hown (hts (.fieldLink RX0 3 "NeedleBoard$Kind" "FINE" "LNeedleBoard$Kind;") (by decide +kernel)) dX0_fineFromCoarse_73 ?_
      refine pk_bias hx hb hKC (by decide) hS hown (hts (.fieldLink RX0 33 "NeedleBoard$Kind" "bias" "I") (by decide +kernel)) dX0_fineFromCoarse_76 ?_
      refine lv_iadd hx hb dX0_fineFromCoarse_79 ?_
      refine lv_topi (fun v80_3 e_v80_3 => ?_)
      refine lv_istore (lv' := [(7, .int v80_3), (6, .int (((kFrac 0) - (kFrac 1)) + (3 : Int32))), (2, .long (fX0_sizeOf 1 x0)), (0, .long x0)]) hx hb dX0_fineFromCoarse_80 hl (by decide) rfl (fun ls hl => ?_)
      refine pk_fine hx hb hKC hS hown (hts (.fieldLink RX0 3 "NeedleBoard$Kind" "FINE" "LNeedleBoard$Kind;") (by decide +kernel)) dX0_fineFromCoarse_82 ?_
      refine pk_coarse hx hb hKC hS hown (hts (.fieldLink RX0 7 "NeedleBoard$Kind" "COARSE" "LNeedleBoard$Kind;") (by decide +kernel)) dX0_fineFromCoarse_85 ?_
      refine lv_lload_n hx hb dX0_fineFromCoarse_88 rfl (lv_at hl 2 rfl) ?_
      refine pc_V (i := 1) (As := [.long (fX0_sizeOf 1 x0)]) (rest := [.ref (ad 0)]) (r := .long (fX0_significandOf 1 (fX0_sizeOf 1 x0))) ⟨hx, hb, hml, hown, hts⟩ (c_X0_significandOf l ad 1 (by decide) (fX0_sizeOf 1 x0)) (cwV 1 hts gX0_fineFromCoarse_X0_significandOf rfl rfl rfl hd_X0_significandOf ⟨Nat.le_of_ble_eq_true rfl, Nat.le_of_ble_eq_true rfl⟩) hKC hS (by decide) rfl hl.1 rfl (lv_room (Nat.le_of_ble_eq_true rfl)) dX0_fineFromCoarse_89 ⟨Nat.zero_le _, Nat.zero_le _⟩ ?_
      refine lv_iload hx hb dX0_fineFromCoarse_92 (lv_at hl 1 rfl) ?_
      refine lv_lshl hx hb dX0_fineFromCoarse_94 rfl ?_
      refine lv_iload hx hb dX0_fineFromCoarse_95 (lv_at hl 0 rfl) ?_
      refine pc_V (i := 0) (As := [.long ((fX0_significandOf 1 (fX0_sizeOf 1 x0)) <<< ((((kFrac 0) - (kFrac 1)) + (3 : Int32)).toInt64 &&& 63)), .int v80_3]) (rest := []) (r := .long (fX0_sizeFrom 0 ((fX0_significandOf 1 (fX0_sizeOf 1 x0)) <<< ((((kFrac 0) - (kFrac 1)) + (3 : Int32)).toInt64 &&& 63)) v80_3)) ⟨hx, hb, hml, hown, hts⟩ (c_X0_sizeFrom l ad 0 (by decide) ((fX0_significandOf 1 (fX0_sizeOf 1 x0)) <<< ((((kFrac 0) - (kFrac 1)) + (3 : Int32)).toInt64 &&& 63)) v80_3) (cwV 2 hts gX0_fineFromCoarse_X0_sizeFrom rfl rfl rfl hd_X0_sizeFrom ⟨Nat.le_of_ble_eq_true rfl, Nat.le_of_ble_eq_true rfl⟩) hKC hS (by decide) rfl hl.1 rfl (lv_room (Nat.le_of_ble_eq_true rfl)) dX0_fineFromCoarse_97 ⟨Nat.zero_le _, Nat.zero_le _⟩ ?_
      refine lv_topl (fun v100_4 e_v100_4 => ?_)
      refine lv_lstore (lv' := [(4, .long v100_4), (7, .int v80_3), (6, .int (((kFrac 0) - (kFrac 1)) + (3 : Int32))), (2, .long (fX0_sizeOf 1 x0)), (0, .long x0)]) hx hb dX0_fineFromCoarse_100 hl (by decide) rfl (fun ls hl => ?_)
      refine pk_fine hx hb hKC hS hown (hts (.fieldLink RX0 3 "NeedleBoard$Kind" "FINE" "LNeedleBoard$Kind;") (by decide +kernel)) dX0_fineFromCoarse_102 ?_
      refine lv_lload hx hb dX0_fineFromCoarse_105 (lv_at hl 0 rfl) ?_
      refine lv_lload_n hx hb dX0_fineFromCoarse_107 rfl (lv_at hl 4 rfl) ?_
      refine pc_V (i := 0) (As := [.long v100_4, .long x0]) (rest := []) (r := .long (fX0_withSideOf 0 v100_4 x0)) ⟨hx, hb, hml, hown, hts⟩ (c_X0_withSideOf l ad 0 (by decide) v100_4 x0) (cwV 2 hts gX0_fineFromCoarse_X0_withSideOf rfl rfl rfl hd_X0_withSideOf ⟨Nat.le_of_ble_eq_true rfl, Nat.le_of_ble_eq_true rfl⟩) hKC hS (by decide) rfl hl.1 rfl (lv_room (Nat.le_of_ble_eq_true rfl)) dX0_fineFromCoarse_108 ⟨Nat.zero_le _, Nat.zero_le _⟩ ?_
      exact W.lret hx hb hr (fun t ht _ => ⟨congrArg (fun z => Outcome.returned (some (Value.long z))) (by subst e_v80_3 e_v100_4; unfold fX0_fineFromCoarse; dsimp only; rw [if_neg c_1, if_neg c_2]), ht⟩) (fun _ h => nomatch h) dX0_fineFromCoarse_111
    · refine pk_fine hx hb hKC hS hown (hts (.fieldLink RX0 3 "NeedleBoard$Kind" "FINE" "LNeedleBoard$Kind;") (by decide +kernel)) dX0_fineFromCoarse_31 ?_
      refine pk_inf hx hb hKC (by decide) hS hown (hts (.fieldLink RX0 48 "NeedleBoard$Kind" "infinity" "J") (by decide +kernel)) dX0_fineFromCoarse_34 ?_
      refine lv_lstore (lv' := [(4, .long (kInf 0)), (2, .long (fX0_sizeOf 1 x0)), (0, .long x0)]) hx hb dX0_fineFromCoarse_37 hl (by decide) rfl (fun ls hl => ?_)
      refine lv_goto (tgt := 102) hx hb dX0_fineFromCoarse_39 (by decide) ?_
      refine pk_fine hx hb hKC hS hown (hts (.fieldLink RX0 3 "NeedleBoard$Kind" "FINE" "LNeedleBoard$Kind;") (by decide +kernel)) dX0_fineFromCoarse_102 ?_
      refine lv_lload hx hb dX0_fineFromCoarse_105 (lv_at hl 0 rfl) ?_
      refine lv_lload_n hx hb dX0_fineFromCoarse_107 rfl (lv_at hl 2 rfl) ?_
      refine pc_V (i := 0) (As := [.long (kInf 0), .long x0]) (rest := []) (r := .long (fX0_withSideOf 0 (kInf 0) x0)) ⟨hx, hb, hml, hown, hts⟩ (c_X0_withSideOf l ad 0 (by decide) (kInf 0) x0) (cwV 2 hts gX0_fineFromCoarse_X0_withSideOf rfl rfl rfl hd_X0_withSideOf ⟨Nat.le_of_ble_eq_true rfl, Nat.le_of_ble_eq_true rfl⟩) hKC hS (by decide) rfl hl.1 rfl (lv_room (Nat.le_of_ble_eq_true rfl)) dX0_fineFromCoarse_108 ⟨Nat.zero_le _, Nat.zero_le _⟩ ?_
      exact W.lret hx hb hr (fun t ht _ => ⟨congrArg (fun z => Outcome.returned (some (Value.long z))) (by unfold fX0_fineFromCoarse; rw [if_neg c_1, if_pos c_2]), ht⟩) (fun _ h => nomatch h) dX0_fineFromCoarse_111
  · refine lv_lconst (v := 0) hx hb dX0_fineFromCoarse_14 (by decide) ?_
    refine lv_lstore (lv' := [(4, .long (0 : Int64)), (2, .long (fX0_sizeOf 1 x0)), (0, .long x0)]) hx hb dX0_fineFromCoarse_15 hl (by decide) rfl (fun ls hl => ?_)
    refine lv_goto (tgt := 102) hx hb dX0_fineFromCoarse_17 (by decide) ?_
    refine pk_fine hx hb hKC hS hown (hts (.fieldLink RX0 3 "NeedleBoard$Kind" "FINE" "LNeedleBoard$Kind;") (by decide +kernel)) dX0_fineFromCoarse_102 ?_
    refine lv_lload hx hb dX0_fineFromCoarse_105 (lv_at hl 0 rfl) ?_
    refine lv_lload_n hx hb dX0_fineFromCoarse_107 rfl (lv_at hl 2 rfl) ?_
    refine pc_V (i := 0) (As := [.long (0 : Int64), .long x0]) (rest := []) (r := .long (fX0_withSideOf 0 (0 : Int64) x0)) ⟨hx, hb, hml, hown, hts⟩ (c_X0_withSideOf l ad 0 (by decide) (0 : Int64) x0) (cwV 2 hts gX0_fineFromCoarse_X0_withSideOf rfl rfl rfl hd_X0_withSideOf ⟨Nat.le_of_ble_eq_true rfl, Nat.le_of_ble_eq_true rfl⟩) hKC hS (by decide) rfl hl.1 rfl (lv_room (Nat.le_of_ble_eq_true rfl)) dX0_fineFromCoarse_108 ⟨Nat.zero_le _, Nat.zero_le _⟩ ?_
    exact W.lret hx hb hr (fun t ht _ => ⟨congrArg (fun z => Outcome.returned (some (Value.long z))) (by unfold fX0_fineFromCoarse; rw [if_pos c_1]), ht⟩) (fun _ h => nomatch h) dX0_fineFromCoarse_111
def fX2_tallied (x0 : Int32) (x1 : Int64) (x3 : Int64) : Int64 :=
  if x0 = 0 then
    x3
  else
    if x0 = 1 then
      if x3 < x1 then x1 else x3
    else
      if x0 = 2 then
        if x1 < x3 then x1 else x3
      else
        if x0 = 3 then
          if 0 < x3 then x3 else -x3
        else
          (if 0 < x1 then x1 else -x1) - (if 0 < x3 then x3 else -x3)
theorem hd_X2_tallied : yX2_tallied.cls ≠ "java/lang/invoke/MethodHandle" ∧ yX2_tallied.cls ≠ "java/lang/invoke/VarHandle" ∧ (parseMethodDescriptor yX2_tallied.desc).map (fun d => d.parameters.length) = some 3 := by decide +kernel
set_option maxHeartbeats 4000000 in
set_option maxRecDepth 100000 in
theorem c_X2_tallied (l : Launch) (x0 : Int32) (x1 : Int64) (x3 : Int64) : Met l yX2_tallied wsX2_tallied ({ frames := 1, cells := 0, slots := 0, locals := 15 }) (P0 [.int x0, .long x1, .long x3]) (k2_QcV (.long (fX2_tallied x0 x1 x3))) 0 0 (fun _ => False) := by
  refine Met.ofW (cc := cX2_tallied) (maxL := 5) (ret := (some .long)) (by decide) rfl ?_
  intro p e s m args below meth c s₁ B hml hv
  have hv2 : args = _ := hv
  subst hv2
  have hx := B.exec
  have hb := B.bytes
  have hr := B.returns
  have hts := atoms_spec (ws := wsX2_tallied) B.pre
  have hown : s.vm.findClass RX2 = some m.cls := findClass_of_methodNamed B.named
  have hlocks := B.notSynchronized
  have hl := lv_entry ([.int x0, .long x1, .long x3]) (n := 5) (Nat.le_of_ble_eq_true rfl)
  rw [lg_entry_eq]
  generalize (lg_sl ([.int x0, .long x1, .long x3]) ++ List.replicate (5 - (lg_sl ([.int x0, .long x1, .long x3])).length) Slot.unset).toArray = ls at hl ⊢
  have hl : lv_has ls 5 [(0, .int x0), (1, .long x1), (3, .long x3)] := hl
  refine lv_iload_n hx hb dX2_tallied_0 rfl (lv_at hl 0 rfl) ?_
  by_cases c_1 : x0 = 0
  · refine lv_tableIn (tgt := 32) (off := 31) hx hb dX2_tallied_1 (by rw [c_1]; decide) (by rw [c_1]; decide) (by rw [c_1]; rfl) (by decide) ?_
    refine lv_lload_n hx hb dX2_tallied_32 rfl (lv_at hl 2 rfl) ?_
    exact W.lret hx hb hr (fun t ht _ => ⟨congrArg (fun z => Outcome.returned (some (Value.long z))) (by unfold fX2_tallied; rw [if_pos c_1]), ht⟩) (fun _ h => nomatch h) dX2_tallied_33
  · by_cases c_2 : x0 = 1
    · refine lv_tableIn (tgt := 34) (off := 33) hx hb dX2_tallied_1 (by rw [c_2]; decide) (by rw [c_2]; decide) (by rw [c_2]; rfl) (by decide) ?_
      refine lv_lload_n hx hb dX2_tallied_34 rfl (lv_at hl 1 rfl) ?_
      refine lv_lload_n hx hb dX2_tallied_35 rfl (lv_at hl 2 rfl) ?_
      refine va_mmax_long hx hb (hml.trans hl.1.symm) hown (hts (.methodLink RX2 133 Lib.MathLoose.max_long.x) (by decide +kernel)) (hts (.static Lib.MathLoose.max_long.x) (by decide +kernel)) (hts (.initialized "java/lang/Math") (by decide +kernel)) (hts (.code Lib.MathLoose.max_long.x Lib.MathLoose.max_long.code 4 (some .long)) (by decide +kernel)) (Nat.le_of_ble_eq_true rfl) (Nat.le_of_ble_eq_true rfl) (Nat.zero_le _) (Nat.zero_le _) dX2_tallied_36 ?_
      exact W.lret hx hb hr (fun t ht _ => ⟨congrArg (fun z => Outcome.returned (some (Value.long z))) (by unfold fX2_tallied; rw [if_neg c_1, if_pos c_2]), ht⟩) (fun _ h => nomatch h) dX2_tallied_39
    · by_cases c_3 : x0 = 2
      · refine lv_tableIn (tgt := 40) (off := 39) hx hb dX2_tallied_1 (by rw [c_3]; decide) (by rw [c_3]; decide) (by rw [c_3]; rfl) (by decide) ?_
        refine lv_lload_n hx hb dX2_tallied_40 rfl (lv_at hl 1 rfl) ?_
        refine lv_lload_n hx hb dX2_tallied_41 rfl (lv_at hl 2 rfl) ?_
        refine va_mmin_long hx hb (hml.trans hl.1.symm) hown (hts (.methodLink RX2 128 Lib.MathLoose.min_long.x) (by decide +kernel)) (hts (.static Lib.MathLoose.min_long.x) (by decide +kernel)) (hts (.initialized "java/lang/Math") (by decide +kernel)) (hts (.code Lib.MathLoose.min_long.x Lib.MathLoose.min_long.code 4 (some .long)) (by decide +kernel)) (Nat.le_of_ble_eq_true rfl) (Nat.le_of_ble_eq_true rfl) (Nat.zero_le _) (Nat.zero_le _) dX2_tallied_42 ?_
        exact W.lret hx hb hr (fun t ht _ => ⟨congrArg (fun z => Outcome.returned (some (Value.long z))) (by unfold fX2_tallied; rw [if_neg c_1, if_neg c_2, if_pos c_3]), ht⟩) (fun _ h => nomatch h) dX2_tallied_45
      · by_cases c_4 : x0 = 3
        · refine lv_tableIn (tgt := 46) (off := 45) hx hb dX2_tallied_1 (by rw [c_4]; decide) (by rw [c_4]; decide) (by rw [c_4]; rfl) (by decide) ?_
          refine lv_lload_n hx hb dX2_tallied_46 rfl (lv_at hl 2 rfl) ?_
          refine va_mabs_long hx hb (hml.trans hl.1.symm) hown (hts (.methodLink RX2 175 Lib.MathLoose.abs_long.x) (by decide +kernel)) (hts (.static Lib.MathLoose.abs_long.x) (by decide +kernel)) (hts (.initialized "java/lang/Math") (by decide +kernel)) (hts (.code Lib.MathLoose.abs_long.x Lib.MathLoose.abs_long.code 2 (some .long)) (by decide +kernel)) (Nat.le_of_ble_eq_true rfl) (Nat.le_of_ble_eq_true rfl) (Nat.zero_le _) (Nat.zero_le _) dX2_tallied_47 ?_
          exact W.lret hx hb hr (fun t ht _ => ⟨congrArg (fun z => Outcome.returned (some (Value.long z))) (by unfold fX2_tallied; rw [if_neg c_1, if_neg c_2, if_neg c_3, if_pos c_4]), ht⟩) (fun _ h => nomatch h) dX2_tallied_50
        · refine lv_tableOut (tgt := 51) hx hb dX2_tallied_1 (by have h0 := lv_neT c_1 (a := 0) rfl; have h1 := lv_neT c_2 (a := 1) rfl; have h2 := lv_neT c_3 (a := 2) rfl; have h3 := lv_neT c_4 (a := 3) rfl; omega) (by decide) ?_
          refine lv_lload_n hx hb dX2_tallied_51 rfl (lv_at hl 1 rfl) ?_
          refine va_mabs_long hx hb (hml.trans hl.1.symm) hown (hts (.methodLink RX2 175 Lib.MathLoose.abs_long.x) (by decide +kernel)) (hts (.static Lib.MathLoose.abs_long.x) (by decide +kernel)) (hts (.initialized "java/lang/Math") (by decide +kernel)) (hts (.code Lib.MathLoose.abs_long.x Lib.MathLoose.abs_long.code 2 (some .long)) (by decide +kernel)) (Nat.le_of_ble_eq_true rfl) (Nat.le_of_ble_eq_true rfl) (Nat.zero_le _) (Nat.zero_le _) dX2_tallied_52 ?_
          refine lv_lload_n hx hb dX2_tallied_55 rfl (lv_at hl 2 rfl) ?_
          refine va_mabs_long hx hb (hml.trans hl.1.symm) hown (hts (.methodLink RX2 175 Lib.MathLoose.abs_long.x) (by decide +kernel)) (hts (.static Lib.MathLoose.abs_long.x) (by decide +kernel)) (hts (.initialized "java/lang/Math") (by decide +kernel)) (hts (.code Lib.MathLoose.abs_long.x Lib.MathLoose.abs_long.code 2 (some .long)) (by decide +kernel)) (Nat.le_of_ble_eq_true rfl) (Nat.le_of_ble_eq_true rfl) (Nat.zero_le _) (Nat.zero_le _) dX2_tallied_56 ?_
          refine lv_lsub hx hb dX2_tallied_59 ?_
          exact W.lret hx hb hr (fun t ht _ => ⟨congrArg (fun z => Outcome.returned (some (Value.long z))) (by unfold fX2_tallied; rw [if_neg c_1, if_neg c_2, if_neg c_3, if_neg c_4]), ht⟩) (fun _ h => nomatch h) dX2_tallied_60
def fX3_own (x0 : Int32) (x1 : Int64) : Int64 :=
  if x0 = 0 then
    x1.toInt32.toInt64
  else
    x1
theorem hd_X3_own : yX3_own.cls ≠ "java/lang/invoke/MethodHandle" ∧ yX3_own.cls ≠ "java/lang/invoke/VarHandle" ∧ (parseMethodDescriptor yX3_own.desc).map (fun d => d.parameters.length) = some 2 := by decide +kernel
set_option maxHeartbeats 4000000 in
set_option maxRecDepth 100000 in
theorem c_X3_own (l : Launch) (x0 : Int32) (x1 : Int64) : Met l yX3_own wsX3_own ({ frames := 0, cells := 0, slots := 0, locals := 0 }) (P0 [.int x0, .long x1]) (k2_QcV (.long (fX3_own x0 x1))) 0 0 (fun _ => False) := by
  refine Met.ofW (cc := cX3_own) (maxL := 3) (ret := (some .long)) (by decide) rfl ?_
  intro p e s m args below meth c s₁ B hml hv
  have hv2 : args = _ := hv
  subst hv2
  have hx := B.exec
  have hb := B.bytes
  have hr := B.returns
  have hts := atoms_spec (ws := wsX3_own) B.pre
  have hown : s.vm.findClass RX3 = some m.cls := findClass_of_methodNamed B.named
  have hlocks := B.notSynchronized
  have hl := lv_entry ([.int x0, .long x1]) (n := 3) (Nat.le_of_ble_eq_true rfl)
  rw [lg_entry_eq]
  generalize (lg_sl ([.int x0, .long x1]) ++ List.replicate (3 - (lg_sl ([.int x0, .long x1])).length) Slot.unset).toArray = ls at hl ⊢
  have hl : lv_has ls 3 [(0, .int x0), (1, .long x1)] := hl
  refine lv_iload_n hx hb dX3_own_0 rfl (lv_at hl 0 rfl) ?_
  refine lv_if_eq (tgt := 8) hx hb dX3_own_1 (by decide) (fun c_1 => ?_) (fun c_1 => ?_)
  · refine lv_lload_n hx hb dX3_own_8 rfl (lv_at hl 1 rfl) ?_
    refine lv_l2i hx hb dX3_own_9 rfl ?_
    refine lv_i2l hx hb dX3_own_10 rfl ?_
    exact W.lret hx hb hr (fun t ht _ => ⟨congrArg (fun z => Outcome.returned (some (Value.long z))) (by unfold fX3_own; rw [if_pos c_1]), ht⟩) (fun _ h => nomatch h) dX3_own_11
  · refine lv_lload_n hx hb dX3_own_4 rfl (lv_at hl 1 rfl) ?_
    refine lv_goto (tgt := 11) hx hb dX3_own_5 (by decide) ?_
    exact W.lret hx hb hr (fun t ht _ => ⟨congrArg (fun z => Outcome.returned (some (Value.long z))) (by unfold fX3_own; rw [if_neg c_1]), ht⟩) (fun _ h => nomatch h) dX3_own_11
def fX3_sizeOf (x0 : Int32) (x1 : Int64) : Int64 :=
  if x0 = 0 then
    x1 &&& (2147483647 : Int64)
  else
    x1 &&& (9223372036854775807 : Int64)
theorem hd_X3_sizeOf : yX3_sizeOf.cls ≠ "java/lang/invoke/MethodHandle" ∧ yX3_sizeOf.cls ≠ "java/lang/invoke/VarHandle" ∧ (parseMethodDescriptor yX3_sizeOf.desc).map (fun d => d.parameters.length) = some 2 := by decide +kernel
set_option maxHeartbeats 4000000 in
set_option maxRecDepth 100000 in
theorem c_X3_sizeOf (l : Launch) (x0 : Int32) (x1 : Int64) : Met l yX3_sizeOf wsX3_sizeOf ({ frames := 0, cells := 0, slots := 0, locals := 0 }) (P0 [.int x0, .long x1]) (k2_QcV (.long (fX3_sizeOf x0 x1))) 0 0 (fun _ => False) := by
  refine Met.ofW (cc := cX3_sizeOf) (maxL := 3) (ret := (some .long)) (by decide) rfl ?_
  intro p e s m args below meth c s₁ B hml hv
  have hv2 : args = _ := hv
  subst hv2
  have hx := B.exec
  have hb := B.bytes
  have hr := B.returns
  have hts := atoms_spec (ws := wsX3_sizeOf) B.pre
  have hown : s.vm.findClass RX3 = some m.cls := findClass_of_methodNamed B.named
  have hlocks := B.notSynchronized
  have hl := lv_entry ([.int x0, .long x1]) (n := 3) (Nat.le_of_ble_eq_true rfl)
  rw [lg_entry_eq]
  generalize (lg_sl ([.int x0, .long x1]) ++ List.replicate (3 - (lg_sl ([.int x0, .long x1])).length) Slot.unset).toArray = ls at hl ⊢
  have hl : lv_has ls 3 [(0, .int x0), (1, .long x1)] := hl
  refine lv_lload_n hx hb dX3_sizeOf_0 rfl (lv_at hl 1 rfl) ?_
  refine lv_iload_n hx hb dX3_sizeOf_1 rfl (lv_at hl 0 rfl) ?_
  refine lv_if_eq (tgt := 11) hx hb dX3_sizeOf_2 (by decide) (fun c_1 => ?_) (fun c_1 => ?_)
  · refine lv_ldc2 (v := (2147483647)) hx hb hown (hts (.constantLong RX3 23 (2147483647)) (by decide +kernel)) dX3_sizeOf_11 ?_
    refine lv_land hx hb dX3_sizeOf_14 ?_
    exact W.lret hx hb hr (fun t ht _ => ⟨congrArg (fun z => Outcome.returned (some (Value.long z))) (by unfold fX3_sizeOf; rw [if_pos c_1]), ht⟩) (fun _ h => nomatch h) dX3_sizeOf_15
  · refine lv_ldc2 (v := (9223372036854775807)) hx hb hown (hts (.constantLong RX3 21 (9223372036854775807)) (by decide +kernel)) dX3_sizeOf_5 ?_
    refine lv_goto (tgt := 14) hx hb dX3_sizeOf_8 (by decide) ?_
    refine lv_land hx hb dX3_sizeOf_14 ?_
    exact W.lret hx hb hr (fun t ht _ => ⟨congrArg (fun z => Outcome.returned (some (Value.long z))) (by unfold fX3_sizeOf; rw [if_neg c_1]), ht⟩) (fun _ h => nomatch h) dX3_sizeOf_15
def fX3_isNumber (x0 : Int32) (x1 : Int64) : Int32 :=
  if x0 = 0 then
    if (2139095040 : Int64) < (fX3_sizeOf x0 x1) then
      (0 : Int32)
    else
      (1 : Int32)
  else
    if (9218868437227405312 : Int64) < (fX3_sizeOf x0 x1) then
      (0 : Int32)
    else
      (1 : Int32)
theorem hd_X3_isNumber : yX3_isNumber.cls ≠ "java/lang/invoke/MethodHandle" ∧ yX3_isNumber.cls ≠ "java/lang/invoke/VarHandle" ∧ (parseMethodDescriptor yX3_isNumber.desc).map (fun d => d.parameters.length) = some 2 := by decide +kernel
set_option maxHeartbeats 4000000 in
set_option maxRecDepth 100000 in
theorem c_X3_isNumber (l : Launch) (x0 : Int32) (x1 : Int64) : Met l yX3_isNumber wsX3_isNumber ({ frames := 1, cells := 0, slots := 0, locals := 22 }) (P0 [.int x0, .long x1]) (k2_QcV (.int (fX3_isNumber x0 x1))) 0 0 (fun _ => False) := by
  refine Met.ofW (cc := cX3_isNumber) (maxL := 3) (ret := (some .boolean)) (by decide) rfl ?_
  intro p e s m args below meth c s₁ B hml hv
  have hv2 : args = _ := hv
  subst hv2
  have hx := B.exec
  have hb := B.bytes
  have hr := B.returns
  have hts := atoms_spec (ws := wsX3_isNumber) B.pre
  have hown : s.vm.findClass RX3 = some m.cls := findClass_of_methodNamed B.named
  have hlocks := B.notSynchronized
  have hl := lv_entry ([.int x0, .long x1]) (n := 3) (Nat.le_of_ble_eq_true rfl)
  rw [lg_entry_eq]
  generalize (lg_sl ([.int x0, .long x1]) ++ List.replicate (3 - (lg_sl ([.int x0, .long x1])).length) Slot.unset).toArray = ls at hl ⊢
  have hl : lv_has ls 3 [(0, .int x0), (1, .long x1)] := hl
  refine lv_iload_n hx hb dX3_isNumber_0 rfl (lv_at hl 0 rfl) ?_
  refine lv_lload_n hx hb dX3_isNumber_1 rfl (lv_at hl 1 rfl) ?_
  refine pc_0 (As := [.int x0, .long x1]) (rest := []) (r := .long (fX3_sizeOf x0 x1)) ⟨hx, hb, hml, hown, hts⟩ (c_X3_sizeOf l x0 x1) (va_cwS 2 hts gX3_isNumber_X3_sizeOf rfl rfl rfl hd_X3_sizeOf ⟨Nat.le_of_ble_eq_true rfl, Nat.le_of_ble_eq_true rfl⟩) rfl hl.1 rfl (lv_room (Nat.le_of_ble_eq_true rfl)) dX3_isNumber_2 ⟨Nat.zero_le _, Nat.zero_le _⟩ ?_
  refine lv_iload_n hx hb dX3_isNumber_5 rfl (lv_at hl 0 rfl) ?_
  refine lv_if_eq (tgt := 15) hx hb dX3_isNumber_6 (by decide) (fun c_1 => ?_) (fun c_1 => ?_)
  · refine lv_ldc2 (v := (2139095040)) hx hb hown (hts (.constantLong RX3 31 (2139095040)) (by decide +kernel)) dX3_isNumber_15 ?_
    refine pl_gt (tgt := 26) hx hb dX3_isNumber_18 dX3_isNumber_19 (by decide) (fun c_2 => ?_) (fun c_2 => ?_)
    · refine lv_iconst (v := 0) hx hb dX3_isNumber_26 (by decide) ?_
      exact W.zret hx hb hr (by decide) (fun t ht _ => ⟨congrArg (fun z => Outcome.returned (some (Value.int z))) (by unfold fX3_isNumber; rw [if_pos c_1, if_pos c_2]), ht⟩) (fun _ h => nomatch h) dX3_isNumber_27
    · refine lv_iconst (v := 1) hx hb dX3_isNumber_22 (by decide) ?_
      refine lv_goto (tgt := 27) hx hb dX3_isNumber_23 (by decide) ?_
      exact W.zret hx hb hr (by decide) (fun t ht _ => ⟨congrArg (fun z => Outcome.returned (some (Value.int z))) (by unfold fX3_isNumber; rw [if_pos c_1, if_neg c_2]), ht⟩) (fun _ h => nomatch h) dX3_isNumber_27
  · refine lv_ldc2 (v := (9218868437227405312)) hx hb hown (hts (.constantLong RX3 29 (9218868437227405312)) (by decide +kernel)) dX3_isNumber_9 ?_
    refine lv_goto (tgt := 18) hx hb dX3_isNumber_12 (by decide) ?_
    refine pl_gt (tgt := 26) hx hb dX3_isNumber_18 dX3_isNumber_19 (by decide) (fun c_3 => ?_) (fun c_3 => ?_)
    · refine lv_iconst (v := 0) hx hb dX3_isNumber_26 (by decide) ?_
      exact W.zret hx hb hr (by decide) (fun t ht _ => ⟨congrArg (fun z => Outcome.returned (some (Value.int z))) (by unfold fX3_isNumber; rw [if_neg c_1, if_pos c_3]), ht⟩) (fun _ h => nomatch h) dX3_isNumber_27
    · refine lv_iconst (v := 1) hx hb dX3_isNumber_22 (by decide) ?_
      refine lv_goto (tgt := 27) hx hb dX3_isNumber_23 (by decide) ?_
      exact W.zret hx hb hr (by decide) (fun t ht _ => ⟨congrArg (fun z => Outcome.returned (some (Value.int z))) (by unfold fX3_isNumber; rw [if_neg c_1, if_neg c_3]), ht⟩) (fun _ h => nomatch h) dX3_isNumber_27
def fX3_isEndless (x0 : Int32) (x1 : Int64) : Int32 :=
  if x0 = 0 then
    if (fX3_sizeOf x0 x1) = (2139095040 : Int64) then
      (1 : Int32)
    else
      (0 : Int32)
  else
    if (fX3_sizeOf x0 x1) = (9218868437227405312 : Int64) then
      (1 : Int32)
    else
      (0 : Int32)
theorem hd_X3_isEndless : yX3_isEndless.cls ≠ "java/lang/invoke/MethodHandle" ∧ yX3_isEndless.cls ≠ "java/lang/invoke/VarHandle" ∧ (parseMethodDescriptor yX3_isEndless.desc).map (fun d => d.parameters.length) = some 2 := by decide +kernel
set_option maxHeartbeats 4000000 in
set_option maxRecDepth 100000 in
theorem c_X3_isEndless (l : Launch) (x0 : Int32) (x1 : Int64) : Met l yX3_isEndless wsX3_isEndless ({ frames := 1, cells := 0, slots := 0, locals := 22 }) (P0 [.int x0, .long x1]) (k2_QcV (.int (fX3_isEndless x0 x1))) 0 0 (fun _ => False) := by
  refine Met.ofW (cc := cX3_isEndless) (maxL := 3) (ret := (some .boolean)) (by decide) rfl ?_
  intro p e s m args below meth c s₁ B hml hv
  have hv2 : args = _ := hv
  subst hv2
  have hx := B.exec
  have hb := B.bytes
  have hr := B.returns
  have hts := atoms_spec (ws := wsX3_isEndless) B.pre
  have hown : s.vm.findClass RX3 = some m.cls := findClass_of_methodNamed B.named
  have hlocks := B.notSynchronized
  have hl := lv_entry ([.int x0, .long x1]) (n := 3) (Nat.le_of_ble_eq_true rfl)
  rw [lg_entry_eq]
  generalize (lg_sl ([.int x0, .long x1]) ++ List.replicate (3 - (lg_sl ([.int x0, .long x1])).length) Slot.unset).toArray = ls at hl ⊢
  have hl : lv_has ls 3 [(0, .int x0), (1, .long x1)] := hl
  refine lv_iload_n hx hb dX3_isEndless_0 rfl (lv_at hl 0 rfl) ?_
  refine lv_lload_n hx hb dX3_isEndless_1 rfl (lv_at hl 1 rfl) ?_
  refine pc_0 (As := [.int x0, .long x1]) (rest := []) (r := .long (fX3_sizeOf x0 x1)) ⟨hx, hb, hml, hown, hts⟩ (c_X3_sizeOf l x0 x1) (va_cwS 2 hts gX3_isEndless_X3_sizeOf rfl rfl rfl hd_X3_sizeOf ⟨Nat.le_of_ble_eq_true rfl, Nat.le_of_ble_eq_true rfl⟩) rfl hl.1 rfl (lv_room (Nat.le_of_ble_eq_true rfl)) dX3_isEndless_2 ⟨Nat.zero_le _, Nat.zero_le _⟩ ?_
  refine lv_iload_n hx hb dX3_isEndless_5 rfl (lv_at hl 0 rfl) ?_
  refine lv_if_eq (tgt := 15) hx hb dX3_isEndless_6 (by decide) (fun c_1 => ?_) (fun c_1 => ?_)
  · refine lv_ldc2 (v := (2139095040)) hx hb hown (hts (.constantLong RX3 31 (2139095040)) (by decide +kernel)) dX3_isEndless_15 ?_
    refine pl_ne (tgt := 26) hx hb dX3_isEndless_18 dX3_isEndless_19 (by decide) (fun c_2 => ?_) (fun c_2 => ?_)
    · refine lv_iconst (v := 0) hx hb dX3_isEndless_26 (by decide) ?_
      exact W.zret hx hb hr (by decide) (fun t ht _ => ⟨congrArg (fun z => Outcome.returned (some (Value.int z))) (by unfold fX3_isEndless; rw [if_pos c_1, if_neg c_2]), ht⟩) (fun _ h => nomatch h) dX3_isEndless_27
    · refine lv_iconst (v := 1) hx hb dX3_isEndless_22 (by decide) ?_
      refine lv_goto (tgt := 27) hx hb dX3_isEndless_23 (by decide) ?_
      exact W.zret hx hb hr (by decide) (fun t ht _ => ⟨congrArg (fun z => Outcome.returned (some (Value.int z))) (by unfold fX3_isEndless; rw [if_pos c_1, if_pos c_2]), ht⟩) (fun _ h => nomatch h) dX3_isEndless_27
  · refine lv_ldc2 (v := (9218868437227405312)) hx hb hown (hts (.constantLong RX3 29 (9218868437227405312)) (by decide +kernel)) dX3_isEndless_9 ?_
    refine lv_goto (tgt := 18) hx hb dX3_isEndless_12 (by decide) ?_
    refine pl_ne (tgt := 26) hx hb dX3_isEndless_18 dX3_isEndless_19 (by decide) (fun c_3 => ?_) (fun c_3 => ?_)
    · refine lv_iconst (v := 0) hx hb dX3_isEndless_26 (by decide) ?_
      exact W.zret hx hb hr (by decide) (fun t ht _ => ⟨congrArg (fun z => Outcome.returned (some (Value.int z))) (by unfold fX3_isEndless; rw [if_neg c_1, if_neg c_3]), ht⟩) (fun _ h => nomatch h) dX3_isEndless_27
    · refine lv_iconst (v := 1) hx hb dX3_isEndless_22 (by decide) ?_
      refine lv_goto (tgt := 27) hx hb dX3_isEndless_23 (by decide) ?_
      exact W.zret hx hb hr (by decide) (fun t ht _ => ⟨congrArg (fun z => Outcome.returned (some (Value.int z))) (by unfold fX3_isEndless; rw [if_neg c_1, if_pos c_3]), ht⟩) (fun _ h => nomatch h) dX3_isEndless_27
def fX3_isNought (x0 : Int32) (x1 : Int64) : Int32 :=
  if (fX3_sizeOf x0 x1) = (0 : Int64) then
    (1 : Int32)
  else
    (0 : Int32)
theorem hd_X3_isNought : yX3_isNought.cls ≠ "java/lang/invoke/MethodHandle" ∧ yX3_isNought.cls ≠ "java/lang/invoke/VarHandle" ∧ (parseMethodDescriptor yX3_isNought.desc).map (fun d => d.parameters.length) = some 2 := by decide +kernel
set_option maxHeartbeats 4000000 in
set_option maxRecDepth 100000 in
theorem c_X3_isNought (l : Launch) (x0 : Int32) (x1 : Int64) : Met l yX3_isNought wsX3_isNought ({ frames := 1, cells := 0, slots := 0, locals := 22 }) (P0 [.int x0, .long x1]) (k2_QcV (.int (fX3_isNought x0 x1))) 0 0 (fun _ => False) := by
  refine Met.ofW (cc := cX3_isNought) (maxL := 3) (ret := (some .boolean)) (by decide) rfl ?_
  intro p e s m args below meth c s₁ B hml hv
  have hv2 : args = _ := hv
  subst hv2
  have hx := B.exec
  have hb := B.bytes
  have hr := B.returns
  have hts := atoms_spec (ws := wsX3_isNought) B.pre
  have hown : s.vm.findClass RX3 = some m.cls := findClass_of_methodNamed B.named
  have hlocks := B.notSynchronized
  have hl := lv_entry ([.int x0, .long x1]) (n := 3) (Nat.le_of_ble_eq_true rfl)
  rw [lg_entry_eq]
  generalize (lg_sl ([.int x0, .long x1]) ++ List.replicate (3 - (lg_sl ([.int x0, .long x1])).length) Slot.unset).toArray = ls at hl ⊢
  have hl : lv_has ls 3 [(0, .int x0), (1, .long x1)] := hl
  refine lv_iload_n hx hb dX3_isNought_0 rfl (lv_at hl 0 rfl) ?_
  refine lv_lload_n hx hb dX3_isNought_1 rfl (lv_at hl 1 rfl) ?_
  refine pc_0 (As := [.int x0, .long x1]) (rest := []) (r := .long (fX3_sizeOf x0 x1)) ⟨hx, hb, hml, hown, hts⟩ (c_X3_sizeOf l x0 x1) (va_cwS 2 hts gX3_isNought_X3_sizeOf rfl rfl rfl hd_X3_sizeOf ⟨Nat.le_of_ble_eq_true rfl, Nat.le_of_ble_eq_true rfl⟩) rfl hl.1 rfl (lv_room (Nat.le_of_ble_eq_true rfl)) dX3_isNought_2 ⟨Nat.zero_le _, Nat.zero_le _⟩ ?_
  refine lv_lconst (v := 0) hx hb dX3_isNought_5 (by decide) ?_
  refine pl_ne (tgt := 14) hx hb dX3_isNought_6 dX3_isNought_7 (by decide) (fun c_1 => ?_) (fun c_1 => ?_)
  · refine lv_iconst (v := 0) hx hb dX3_isNought_14 (by decide) ?_
    exact W.zret hx hb hr (by decide) (fun t ht _ => ⟨congrArg (fun z => Outcome.returned (some (Value.int z))) (by unfold fX3_isNought; rw [if_neg c_1]), ht⟩) (fun _ h => nomatch h) dX3_isNought_15
  · refine lv_iconst (v := 1) hx hb dX3_isNought_10 (by decide) ?_
    refine lv_goto (tgt := 15) hx hb dX3_isNought_11 (by decide) ?_
    exact W.zret hx hb hr (by decide) (fun t ht _ => ⟨congrArg (fun z => Outcome.returned (some (Value.int z))) (by unfold fX3_isNought; rw [if_pos c_1]), ht⟩) (fun _ h => nomatch h) dX3_isNought_15
def fX3_rank (x0 : Int32) (x1 : Int64) : Int64 :=
  if (0 : Int64) ≤ x1 then
    x1
  else
    (-1 : Int64) - (fX3_sizeOf x0 x1)
theorem hd_X3_rank : yX3_rank.cls ≠ "java/lang/invoke/MethodHandle" ∧ yX3_rank.cls ≠ "java/lang/invoke/VarHandle" ∧ (parseMethodDescriptor yX3_rank.desc).map (fun d => d.parameters.length) = some 2 := by decide +kernel
set_option maxHeartbeats 4000000 in
set_option maxRecDepth 100000 in
theorem c_X3_rank (l : Launch) (x0 : Int32) (x1 : Int64) : Met l yX3_rank wsX3_rank ({ frames := 1, cells := 0, slots := 0, locals := 22 }) (P0 [.int x0, .long x1]) (k2_QcV (.long (fX3_rank x0 x1))) 0 0 (fun _ => False) := by
  refine Met.ofW (cc := cX3_rank) (maxL := 3) (ret := (some .long)) (by decide) rfl ?_
  intro p e s m args below meth c s₁ B hml hv
  have hv2 : args = _ := hv
  subst hv2
  have hx := B.exec
  have hb := B.bytes
  have hr := B.returns
  have hts := atoms_spec (ws := wsX3_rank) B.pre
  have hown : s.vm.findClass RX3 = some m.cls := findClass_of_methodNamed B.named
  have hlocks := B.notSynchronized
  have hl := lv_entry ([.int x0, .long x1]) (n := 3) (Nat.le_of_ble_eq_true rfl)
  rw [lg_entry_eq]
  generalize (lg_sl ([.int x0, .long x1]) ++ List.replicate (3 - (lg_sl ([.int x0, .long x1])).length) Slot.unset).toArray = ls at hl ⊢
  have hl : lv_has ls 3 [(0, .int x0), (1, .long x1)] := hl
  refine lv_lload_n hx hb dX3_rank_0 rfl (lv_at hl 1 rfl) ?_
  refine lv_lconst (v := 0) hx hb dX3_rank_1 (by decide) ?_
  refine pl_ge (tgt := 18) hx hb dX3_rank_2 dX3_rank_3 (by decide) (fun c_1 => ?_) (fun c_1 => ?_)
  · refine lv_lload_n hx hb dX3_rank_18 rfl (lv_at hl 1 rfl) ?_
    exact W.lret hx hb hr (fun t ht _ => ⟨congrArg (fun z => Outcome.returned (some (Value.long z))) (by unfold fX3_rank; rw [if_pos c_1]), ht⟩) (fun _ h => nomatch h) dX3_rank_19
  · refine lv_ldc2 (v := (-1)) hx hb hown (hts (.constantLong RX3 33 (-1)) (by decide +kernel)) dX3_rank_6 ?_
    refine lv_iload_n hx hb dX3_rank_9 rfl (lv_at hl 0 rfl) ?_
    refine lv_lload_n hx hb dX3_rank_10 rfl (lv_at hl 1 rfl) ?_
    refine pc_0 (As := [.int x0, .long x1]) (rest := [.long (-1 : Int64)]) (r := .long (fX3_sizeOf x0 x1)) ⟨hx, hb, hml, hown, hts⟩ (c_X3_sizeOf l x0 x1) (va_cwS 2 hts gX3_rank_X3_sizeOf rfl rfl rfl hd_X3_sizeOf ⟨Nat.le_of_ble_eq_true rfl, Nat.le_of_ble_eq_true rfl⟩) rfl hl.1 rfl (lv_room (Nat.le_of_ble_eq_true rfl)) dX3_rank_11 ⟨Nat.zero_le _, Nat.zero_le _⟩ ?_
    refine lv_lsub hx hb dX3_rank_14 ?_
    refine lv_goto (tgt := 19) hx hb dX3_rank_15 (by decide) ?_
    exact W.lret hx hb hr (fun t ht _ => ⟨congrArg (fun z => Outcome.returned (some (Value.long z))) (by unfold fX3_rank; rw [if_neg c_1]), ht⟩) (fun _ h => nomatch h) dX3_rank_19
def fX3_sided (x0 : Int32) (x1 : Int64) (x3 : Int32) : Int64 :=
  if x3 = 0 then
    x1
  else
    if x0 = 0 then
      x1 - (2147483648 : Int64)
    else
      x1 ||| (-9223372036854775808 : Int64)
theorem hd_X3_sided : yX3_sided.cls ≠ "java/lang/invoke/MethodHandle" ∧ yX3_sided.cls ≠ "java/lang/invoke/VarHandle" ∧ (parseMethodDescriptor yX3_sided.desc).map (fun d => d.parameters.length) = some 3 := by decide +kernel
set_option maxHeartbeats 4000000 in
set_option maxRecDepth 100000 in
theorem c_X3_sided (l : Launch) (x0 : Int32) (x1 : Int64) (x3 : Int32) : Met l yX3_sided wsX3_sided ({ frames := 0, cells := 0, slots := 0, locals := 0 }) (P0 [.int x0, .long x1, .int x3]) (k2_QcV (.long (fX3_sided x0 x1 x3))) 0 0 (fun _ => False) := by
  refine Met.ofW (cc := cX3_sided) (maxL := 4) (ret := (some .long)) (by decide) rfl ?_
  intro p e s m args below meth c s₁ B hml hv
  have hv2 : args = _ := hv
  subst hv2
  have hx := B.exec
  have hb := B.bytes
  have hr := B.returns
  have hts := atoms_spec (ws := wsX3_sided) B.pre
  have hown : s.vm.findClass RX3 = some m.cls := findClass_of_methodNamed B.named
  have hlocks := B.notSynchronized
  have hl := lv_entry ([.int x0, .long x1, .int x3]) (n := 4) (Nat.le_of_ble_eq_true rfl)
  rw [lg_entry_eq]
  generalize (lg_sl ([.int x0, .long x1, .int x3]) ++ List.replicate (4 - (lg_sl ([.int x0, .long x1, .int x3])).length) Slot.unset).toArray = ls at hl ⊢
  have hl : lv_has ls 4 [(0, .int x0), (1, .long x1), (3, .int x3)] := hl
  refine lv_iload_n hx hb dX3_sided_0 rfl (lv_at hl 2 rfl) ?_
  refine lv_if_ne (tgt := 6) hx hb dX3_sided_1 (by decide) (fun c_1 => ?_) (fun c_1 => ?_)
  · refine lv_iload_n hx hb dX3_sided_6 rfl (lv_at hl 0 rfl) ?_
    refine lv_if_eq (tgt := 18) hx hb dX3_sided_7 (by decide) (fun c_2 => ?_) (fun c_2 => ?_)
    · refine lv_lload_n hx hb dX3_sided_18 rfl (lv_at hl 1 rfl) ?_
      refine lv_ldc2 (v := (2147483648)) hx hb hown (hts (.constantLong RX3 37 (2147483648)) (by decide +kernel)) dX3_sided_19 ?_
      refine lv_lsub hx hb dX3_sided_22 ?_
      exact W.lret hx hb hr (fun t ht _ => ⟨congrArg (fun z => Outcome.returned (some (Value.long z))) (by unfold fX3_sided; rw [if_neg c_1, if_pos c_2]), ht⟩) (fun _ h => nomatch h) dX3_sided_23
    · refine lv_lload_n hx hb dX3_sided_10 rfl (lv_at hl 1 rfl) ?_
      refine lv_ldc2 (v := (-9223372036854775808)) hx hb hown (hts (.constantLong RX3 35 (-9223372036854775808)) (by decide +kernel)) dX3_sided_11 ?_
      refine lv_lor hx hb dX3_sided_14 ?_
      refine lv_goto (tgt := 23) hx hb dX3_sided_15 (by decide) ?_
      exact W.lret hx hb hr (fun t ht _ => ⟨congrArg (fun z => Outcome.returned (some (Value.long z))) (by unfold fX3_sided; rw [if_neg c_1, if_neg c_2]), ht⟩) (fun _ h => nomatch h) dX3_sided_23
  · refine lv_lload_n hx hb dX3_sided_4 rfl (lv_at hl 1 rfl) ?_
    exact W.lret hx hb hr (fun t ht _ => ⟨congrArg (fun z => Outcome.returned (some (Value.long z))) (by unfold fX3_sided; rw [if_pos c_1]), ht⟩) (fun _ h => nomatch h) dX3_sided_5
def fX3_turned (x0 : Int32) (x1 : Int64) : Int64 :=
  if x1 < (0 : Int64) then
    fX3_sided x0 (fX3_sizeOf x0 x1) (0 : Int32)
  else
    fX3_sided x0 (fX3_sizeOf x0 x1) (1 : Int32)
theorem hd_X3_turned : yX3_turned.cls ≠ "java/lang/invoke/MethodHandle" ∧ yX3_turned.cls ≠ "java/lang/invoke/VarHandle" ∧ (parseMethodDescriptor yX3_turned.desc).map (fun d => d.parameters.length) = some 2 := by decide +kernel
set_option maxHeartbeats 4000000 in
set_option maxRecDepth 100000 in
theorem c_X3_turned (l : Launch) (x0 : Int32) (x1 : Int64) : Met l yX3_turned wsX3_turned ({ frames := 1, cells := 0, slots := 0, locals := 23 }) (P0 [.int x0, .long x1]) (k2_QcV (.long (fX3_turned x0 x1))) 0 0 (fun _ => False) := by
  refine Met.ofW (cc := cX3_turned) (maxL := 3) (ret := (some .long)) (by decide) rfl ?_
  intro p e s m args below meth c s₁ B hml hv
  have hv2 : args = _ := hv
  subst hv2
  have hx := B.exec
  have hb := B.bytes
  have hr := B.returns
  have hts := atoms_spec (ws := wsX3_turned) B.pre
  have hown : s.vm.findClass RX3 = some m.cls := findClass_of_methodNamed B.named
  have hlocks := B.notSynchronized
  have hl := lv_entry ([.int x0, .long x1]) (n := 3) (Nat.le_of_ble_eq_true rfl)
  rw [lg_entry_eq]
  generalize (lg_sl ([.int x0, .long x1]) ++ List.replicate (3 - (lg_sl ([.int x0, .long x1])).length) Slot.unset).toArray = ls at hl ⊢
  have hl : lv_has ls 3 [(0, .int x0), (1, .long x1)] := hl
  refine lv_iload_n hx hb dX3_turned_0 rfl (lv_at hl 0 rfl) ?_
  refine lv_iload_n hx hb dX3_turned_1 rfl (lv_at hl 0 rfl) ?_
  refine lv_lload_n hx hb dX3_turned_2 rfl (lv_at hl 1 rfl) ?_
  refine pc_0 (As := [.int x0, .long x1]) (rest := [.int x0]) (r := .long (fX3_sizeOf x0 x1)) ⟨hx, hb, hml, hown, hts⟩ (c_X3_sizeOf l x0 x1) (va_cwS 2 hts gX3_turned_X3_sizeOf rfl rfl rfl hd_X3_sizeOf ⟨Nat.le_of_ble_eq_true rfl, Nat.le_of_ble_eq_true rfl⟩) rfl hl.1 rfl (lv_room (Nat.le_of_ble_eq_true rfl)) dX3_turned_3 ⟨Nat.zero_le _, Nat.zero_le _⟩ ?_
  refine lv_lload_n hx hb dX3_turned_6 rfl (lv_at hl 1 rfl) ?_
  refine lv_lconst (v := 0) hx hb dX3_turned_7 (by decide) ?_
  refine pl_lt (tgt := 16) hx hb dX3_turned_8 dX3_turned_9 (by decide) (fun c_1 => ?_) (fun c_1 => ?_)
  · refine lv_iconst (v := 0) hx hb dX3_turned_16 (by decide) ?_
    refine pc_0 (As := [.int x0, .long (fX3_sizeOf x0 x1), .int (0 : Int32)]) (rest := []) (r := .long (fX3_sided x0 (fX3_sizeOf x0 x1) (0 : Int32))) ⟨hx, hb, hml, hown, hts⟩ (c_X3_sided l x0 (fX3_sizeOf x0 x1) (0 : Int32)) (va_cwS 3 hts gX3_turned_X3_sided rfl rfl rfl hd_X3_sided ⟨Nat.le_of_ble_eq_true rfl, Nat.le_of_ble_eq_true rfl⟩) rfl hl.1 rfl (lv_room (Nat.le_of_ble_eq_true rfl)) dX3_turned_17 ⟨Nat.zero_le _, Nat.zero_le _⟩ ?_
    exact W.lret hx hb hr (fun t ht _ => ⟨congrArg (fun z => Outcome.returned (some (Value.long z))) (by unfold fX3_turned; rw [if_pos c_1]), ht⟩) (fun _ h => nomatch h) dX3_turned_20
  · refine lv_iconst (v := 1) hx hb dX3_turned_12 (by decide) ?_
    refine lv_goto (tgt := 17) hx hb dX3_turned_13 (by decide) ?_
    refine pc_0 (As := [.int x0, .long (fX3_sizeOf x0 x1), .int (1 : Int32)]) (rest := []) (r := .long (fX3_sided x0 (fX3_sizeOf x0 x1) (1 : Int32))) ⟨hx, hb, hml, hown, hts⟩ (c_X3_sided l x0 (fX3_sizeOf x0 x1) (1 : Int32)) (va_cwS 3 hts gX3_turned_X3_sided rfl rfl rfl hd_X3_sided ⟨Nat.le_of_ble_eq_true rfl, Nat.le_of_ble_eq_true rfl⟩) rfl hl.1 rfl (lv_room (Nat.le_of_ble_eq_true rfl)) dX3_turned_17 ⟨Nat.zero_le _, Nat.zero_le _⟩ ?_
    exact W.lret hx hb hr (fun t ht _ => ⟨congrArg (fun z => Outcome.returned (some (Value.long z))) (by unfold fX3_turned; rw [if_neg c_1]), ht⟩) (fun _ h => nomatch h) dX3_turned_20
def fX3_alike (x0 : Int32) (x1 : Int64) (x3 : Int64) : Int32 :=
  if x1 = x3 then
    (1 : Int32)
  else
    if (fX3_isNought x0 x1) = 0 then
      (0 : Int32)
    else
      if (fX3_isNought x0 x3) = 0 then
        (0 : Int32)
      else
        (1 : Int32)
theorem hd_X3_alike : yX3_alike.cls ≠ "java/lang/invoke/MethodHandle" ∧ yX3_alike.cls ≠ "java/lang/invoke/VarHandle" ∧ (parseMethodDescriptor yX3_alike.desc).map (fun d => d.parameters.length) = some 3 := by decide +kernel
set_option maxHeartbeats 4000000 in
set_option maxRecDepth 100000 in
theorem c_X3_alike (l : Launch) (x0 : Int32) (x1 : Int64) (x3 : Int64) : Met l yX3_alike wsX3_alike ({ frames := 2, cells := 0, slots := 0, locals := 44 }) (P0 [.int x0, .long x1, .long x3]) (k2_QcV (.int (fX3_alike x0 x1 x3))) 0 0 (fun _ => False) := by
  refine Met.ofW (cc := cX3_alike) (maxL := 5) (ret := (some .boolean)) (by decide) rfl ?_
  intro p e s m args below meth c s₁ B hml hv
  have hv2 : args = _ := hv
  subst hv2
  have hx := B.exec
  have hb := B.bytes
  have hr := B.returns
  have hts := atoms_spec (ws := wsX3_alike) B.pre
  have hown : s.vm.findClass RX3 = some m.cls := findClass_of_methodNamed B.named
  have hlocks := B.notSynchronized
  have hl := lv_entry ([.int x0, .long x1, .long x3]) (n := 5) (Nat.le_of_ble_eq_true rfl)
  rw [lg_entry_eq]
  generalize (lg_sl ([.int x0, .long x1, .long x3]) ++ List.replicate (5 - (lg_sl ([.int x0, .long x1, .long x3])).length) Slot.unset).toArray = ls at hl ⊢
  have hl : lv_has ls 5 [(0, .int x0), (1, .long x1), (3, .long x3)] := hl
  refine lv_lload_n hx hb dX3_alike_0 rfl (lv_at hl 1 rfl) ?_
  refine lv_lload_n hx hb dX3_alike_1 rfl (lv_at hl 2 rfl) ?_
  refine pl_eq (tgt := 22) hx hb dX3_alike_2 dX3_alike_3 (by decide) (fun c_1 => ?_) (fun c_1 => ?_)
  · refine lv_iconst (v := 1) hx hb dX3_alike_22 (by decide) ?_
    refine lv_goto (tgt := 27) hx hb dX3_alike_23 (by decide) ?_
    exact W.zret hx hb hr (by decide) (fun t ht _ => ⟨congrArg (fun z => Outcome.returned (some (Value.int z))) (by unfold fX3_alike; rw [if_pos c_1]), ht⟩) (fun _ h => nomatch h) dX3_alike_27
  · refine lv_iload_n hx hb dX3_alike_6 rfl (lv_at hl 0 rfl) ?_
    refine lv_lload_n hx hb dX3_alike_7 rfl (lv_at hl 1 rfl) ?_
    refine pc_0 (As := [.int x0, .long x1]) (rest := []) (r := .int (fX3_isNought x0 x1)) ⟨hx, hb, hml, hown, hts⟩ (c_X3_isNought l x0 x1) (va_cwS 2 hts gX3_alike_X3_isNought rfl rfl rfl hd_X3_isNought ⟨Nat.le_of_ble_eq_true rfl, Nat.le_of_ble_eq_true rfl⟩) rfl hl.1 rfl (lv_room (Nat.le_of_ble_eq_true rfl)) dX3_alike_8 ⟨Nat.zero_le _, Nat.zero_le _⟩ ?_
    refine lv_if_eq (tgt := 26) hx hb dX3_alike_11 (by decide) (fun c_2 => ?_) (fun c_2 => ?_)
    · refine lv_iconst (v := 0) hx hb dX3_alike_26 (by decide) ?_
      exact W.zret hx hb hr (by decide) (fun t ht _ => ⟨congrArg (fun z => Outcome.returned (some (Value.int z))) (by unfold fX3_alike; rw [if_neg c_1, if_pos c_2]), ht⟩) (fun _ h => nomatch h) dX3_alike_27
    · refine lv_iload_n hx hb dX3_alike_14 rfl (lv_at hl 0 rfl) ?_
      refine lv_lload_n hx hb dX3_alike_15 rfl (lv_at hl 2 rfl) ?_
      refine pc_0 (As := [.int x0, .long x3]) (rest := []) (r := .int (fX3_isNought x0 x3)) ⟨hx, hb, hml, hown, hts⟩ (c_X3_isNought l x0 x3) (va_cwS 2 hts gX3_alike_X3_isNought rfl rfl rfl hd_X3_isNought ⟨Nat.le_of_ble_eq_true rfl, Nat.le_of_ble_eq_true rfl⟩) rfl hl.1 rfl (lv_room (Nat.le_of_ble_eq_true rfl)) dX3_alike_16 ⟨Nat.zero_le _, Nat.zero_le _⟩ ?_
      refine lv_if_eq (tgt := 26) hx hb dX3_alike_19 (by decide) (fun c_3 => ?_) (fun c_3 => ?_)
      · refine lv_iconst (v := 0) hx hb dX3_alike_26 (by decide) ?_
        exact W.zret hx hb hr (by decide) (fun t ht _ => ⟨congrArg (fun z => Outcome.returned (some (Value.int z))) (by unfold fX3_alike; rw [if_neg c_1, if_neg c_2, if_pos c_3]), ht⟩) (fun _ h => nomatch h) dX3_alike_27
      · refine lv_iconst (v := 1) hx hb dX3_alike_22 (by decide) ?_
        refine lv_goto (tgt := 27) hx hb dX3_alike_23 (by decide) ?_
        exact W.zret hx hb hr (by decide) (fun t ht _ => ⟨congrArg (fun z => Outcome.returned (some (Value.int z))) (by unfold fX3_alike; rw [if_neg c_1, if_neg c_2, if_neg c_3]), ht⟩) (fun _ h => nomatch h) dX3_alike_27
def fX3_grown (x0 : Int32) (x1 : Int64) (x3 : Int64) : Int64 :=
  if (0 : Int64) ≤ x3 then
    if x0 = 0 then
      x3
    else
      if x0 = 1 then
        if x1 ≤ x3 then
          x3
        else
          x1
      else
        if x0 = 2 then
          if x3 ≤ x1 then
            x3
          else
            x1
        else
          if x0 = 3 then
            x3
          else
            if (0 : Int64) ≤ x1 then
              x1 - x3
            else
              (-x1) - x3
  else
    if x0 = 0 then
      x3
    else
      if x0 = 1 then
        if x1 ≤ x3 then
          x3
        else
          x1
      else
        if x0 = 2 then
          if x3 ≤ x1 then
            x3
          else
            x1
        else
          if x0 = 3 then
            -x3
          else
            if (0 : Int64) ≤ x1 then
              x1 - (-x3)
            else
              (-x1) - (-x3)
theorem hd_X3_grown : yX3_grown.cls ≠ "java/lang/invoke/MethodHandle" ∧ yX3_grown.cls ≠ "java/lang/invoke/VarHandle" ∧ (parseMethodDescriptor yX3_grown.desc).map (fun d => d.parameters.length) = some 3 := by decide +kernel
set_option maxHeartbeats 4000000 in
set_option maxRecDepth 100000 in
theorem c_X3_grown (l : Launch) (x0 : Int32) (x1 : Int64) (x3 : Int64) : Met l yX3_grown wsX3_grown ({ frames := 0, cells := 0, slots := 0, locals := 0 }) (P0 [.int x0, .long x1, .long x3]) (k2_QcV (.long (fX3_grown x0 x1 x3))) 0 0 (fun _ => False) := by
  refine Met.ofW (cc := cX3_grown) (maxL := 7) (ret := (some .long)) (by decide) rfl ?_
  intro p e s m args below meth c s₁ B hml hv
  have hv2 : args = _ := hv
  subst hv2
  have hx := B.exec
  have hb := B.bytes
  have hr := B.returns
  have hts := atoms_spec (ws := wsX3_grown) B.pre
  have hown : s.vm.findClass RX3 = some m.cls := findClass_of_methodNamed B.named
  have hlocks := B.notSynchronized
  have hl := lv_entry ([.int x0, .long x1, .long x3]) (n := 7) (Nat.le_of_ble_eq_true rfl)
  rw [lg_entry_eq]
  generalize (lg_sl ([.int x0, .long x1, .long x3]) ++ List.replicate (7 - (lg_sl ([.int x0, .long x1, .long x3])).length) Slot.unset).toArray = ls at hl ⊢
  have hl : lv_has ls 7 [(0, .int x0), (1, .long x1), (3, .long x3)] := hl
  refine lv_lload_n hx hb dX3_grown_0 rfl (lv_at hl 2 rfl) ?_
  refine lv_lconst (v := 0) hx hb dX3_grown_1 (by decide) ?_
  refine pl_ge (tgt := 11) hx hb dX3_grown_2 dX3_grown_3 (by decide) (fun c_1 => ?_) (fun c_1 => ?_)
  · refine lv_lload_n hx hb dX3_grown_11 rfl (lv_at hl 2 rfl) ?_
    refine lv_lstore (lv' := [(5, .long x3), (0, .int x0), (1, .long x1), (3, .long x3)]) hx hb dX3_grown_12 hl (by decide) rfl (fun ls hl => ?_)
    refine lv_iload_n hx hb dX3_grown_14 rfl (lv_at hl 1 rfl) ?_
    by_cases c_2 : x0 = 0
    · refine lv_tableIn (tgt := 44) (off := 29) hx hb dX3_grown_15 (by rw [c_2]; decide) (by rw [c_2]; decide) (by rw [c_2]; rfl) (by decide) ?_
      refine lv_lload_n hx hb dX3_grown_44 rfl (lv_at hl 3 rfl) ?_
      exact W.lret hx hb hr (fun t ht _ => ⟨congrArg (fun z => Outcome.returned (some (Value.long z))) (by unfold fX3_grown; rw [if_pos c_1, if_pos c_2]), ht⟩) (fun _ h => nomatch h) dX3_grown_45
    · by_cases c_3 : x0 = 1
      · refine lv_tableIn (tgt := 46) (off := 31) hx hb dX3_grown_15 (by rw [c_3]; decide) (by rw [c_3]; decide) (by rw [c_3]; rfl) (by decide) ?_
        refine lv_lload_n hx hb dX3_grown_46 rfl (lv_at hl 2 rfl) ?_
        refine lv_lload_n hx hb dX3_grown_47 rfl (lv_at hl 3 rfl) ?_
        refine pl_le (tgt := 56) hx hb dX3_grown_48 dX3_grown_49 (by decide) (fun c_4 => ?_) (fun c_4 => ?_)
        · refine lv_lload_n hx hb dX3_grown_56 rfl (lv_at hl 3 rfl) ?_
          exact W.lret hx hb hr (fun t ht _ => ⟨congrArg (fun z => Outcome.returned (some (Value.long z))) (by unfold fX3_grown; rw [if_pos c_1, if_neg c_2, if_pos c_3, if_pos c_4]), ht⟩) (fun _ h => nomatch h) dX3_grown_57
        · refine lv_lload_n hx hb dX3_grown_52 rfl (lv_at hl 2 rfl) ?_
          refine lv_goto (tgt := 57) hx hb dX3_grown_53 (by decide) ?_
          exact W.lret hx hb hr (fun t ht _ => ⟨congrArg (fun z => Outcome.returned (some (Value.long z))) (by unfold fX3_grown; rw [if_pos c_1, if_neg c_2, if_pos c_3, if_neg c_4]), ht⟩) (fun _ h => nomatch h) dX3_grown_57
      · by_cases c_5 : x0 = 2
        · refine lv_tableIn (tgt := 58) (off := 43) hx hb dX3_grown_15 (by rw [c_5]; decide) (by rw [c_5]; decide) (by rw [c_5]; rfl) (by decide) ?_
          refine lv_lload_n hx hb dX3_grown_58 rfl (lv_at hl 2 rfl) ?_
          refine lv_lload_n hx hb dX3_grown_59 rfl (lv_at hl 3 rfl) ?_
          refine pl_ge (tgt := 68) hx hb dX3_grown_60 dX3_grown_61 (by decide) (fun c_6 => ?_) (fun c_6 => ?_)
          · refine lv_lload_n hx hb dX3_grown_68 rfl (lv_at hl 3 rfl) ?_
            exact W.lret hx hb hr (fun t ht _ => ⟨congrArg (fun z => Outcome.returned (some (Value.long z))) (by unfold fX3_grown; rw [if_pos c_1, if_neg c_2, if_neg c_3, if_pos c_5, if_pos c_6]), ht⟩) (fun _ h => nomatch h) dX3_grown_69
          · refine lv_lload_n hx hb dX3_grown_64 rfl (lv_at hl 2 rfl) ?_
            refine lv_goto (tgt := 69) hx hb dX3_grown_65 (by decide) ?_
            exact W.lret hx hb hr (fun t ht _ => ⟨congrArg (fun z => Outcome.returned (some (Value.long z))) (by unfold fX3_grown; rw [if_pos c_1, if_neg c_2, if_neg c_3, if_pos c_5, if_neg c_6]), ht⟩) (fun _ h => nomatch h) dX3_grown_69
        · by_cases c_7 : x0 = 3
          · refine lv_tableIn (tgt := 70) (off := 55) hx hb dX3_grown_15 (by rw [c_7]; decide) (by rw [c_7]; decide) (by rw [c_7]; rfl) (by decide) ?_
            refine lv_lload hx hb dX3_grown_70 (lv_at hl 0 rfl) ?_
            exact W.lret hx hb hr (fun t ht _ => ⟨congrArg (fun z => Outcome.returned (some (Value.long z))) (by unfold fX3_grown; rw [if_pos c_1, if_neg c_2, if_neg c_3, if_neg c_5, if_pos c_7]), ht⟩) (fun _ h => nomatch h) dX3_grown_72
          · refine lv_tableOut (tgt := 73) hx hb dX3_grown_15 (by have h0 := lv_neT c_2 (a := 0) rfl; have h1 := lv_neT c_3 (a := 1) rfl; have h2 := lv_neT c_5 (a := 2) rfl; have h3 := lv_neT c_7 (a := 3) rfl; omega) (by decide) ?_
            refine lv_lload_n hx hb dX3_grown_73 rfl (lv_at hl 2 rfl) ?_
            refine lv_lconst (v := 0) hx hb dX3_grown_74 (by decide) ?_
            refine pl_ge (tgt := 84) hx hb dX3_grown_75 dX3_grown_76 (by decide) (fun c_8 => ?_) (fun c_8 => ?_)
            · refine lv_lload_n hx hb dX3_grown_84 rfl (lv_at hl 2 rfl) ?_
              refine lv_lload hx hb dX3_grown_85 (lv_at hl 0 rfl) ?_
              refine lv_lsub hx hb dX3_grown_87 ?_
              exact W.lret hx hb hr (fun t ht _ => ⟨congrArg (fun z => Outcome.returned (some (Value.long z))) (by unfold fX3_grown; rw [if_pos c_1, if_neg c_2, if_neg c_3, if_neg c_5, if_neg c_7, if_pos c_8]), ht⟩) (fun _ h => nomatch h) dX3_grown_88
            · refine lv_lload_n hx hb dX3_grown_79 rfl (lv_at hl 2 rfl) ?_
              refine lv_lneg hx hb dX3_grown_80 ?_
              refine lv_goto (tgt := 85) hx hb dX3_grown_81 (by decide) ?_
              refine lv_lload hx hb dX3_grown_85 (lv_at hl 0 rfl) ?_
              refine lv_lsub hx hb dX3_grown_87 ?_
              exact W.lret hx hb hr (fun t ht _ => ⟨congrArg (fun z => Outcome.returned (some (Value.long z))) (by unfold fX3_grown; rw [if_pos c_1, if_neg c_2, if_neg c_3, if_neg c_5, if_neg c_7, if_neg c_8]), ht⟩) (fun _ h => nomatch h) dX3_grown_88
  · refine lv_lload_n hx hb dX3_grown_6 rfl (lv_at hl 2 rfl) ?_
    refine lv_lneg hx hb dX3_grown_7 ?_
    refine lv_goto (tgt := 12) hx hb dX3_grown_8 (by decide) ?_
    refine lv_lstore (lv' := [(5, .long (-x3)), (0, .int x0), (1, .long x1), (3, .long x3)]) hx hb dX3_grown_12 hl (by decide) rfl (fun ls hl => ?_)
    refine lv_iload_n hx hb dX3_grown_14 rfl (lv_at hl 1 rfl) ?_
    by_cases c_9 : x0 = 0
    · refine lv_tableIn (tgt := 44) (off := 29) hx hb dX3_grown_15 (by rw [c_9]; decide) (by rw [c_9]; decide) (by rw [c_9]; rfl) (by decide) ?_
      refine lv_lload_n hx hb dX3_grown_44 rfl (lv_at hl 3 rfl) ?_
      exact W.lret hx hb hr (fun t ht _ => ⟨congrArg (fun z => Outcome.returned (some (Value.long z))) (by unfold fX3_grown; rw [if_neg c_1, if_pos c_9]), ht⟩) (fun _ h => nomatch h) dX3_grown_45
    · by_cases c_10 : x0 = 1
      · refine lv_tableIn (tgt := 46) (off := 31) hx hb dX3_grown_15 (by rw [c_10]; decide) (by rw [c_10]; decide) (by rw [c_10]; rfl) (by decide) ?_
        refine lv_lload_n hx hb dX3_grown_46 rfl (lv_at hl 2 rfl) ?_
        refine lv_lload_n hx hb dX3_grown_47 rfl (lv_at hl 3 rfl) ?_
        refine pl_le (tgt := 56) hx hb dX3_grown_48 dX3_grown_49 (by decide) (fun c_11 => ?_) (fun c_11 => ?_)
        · refine lv_lload_n hx hb dX3_grown_56 rfl (lv_at hl 3 rfl) ?_
          exact W.lret hx hb hr (fun t ht _ => ⟨congrArg (fun z => Outcome.returned (some (Value.long z))) (by unfold fX3_grown; rw [if_neg c_1, if_neg c_9, if_pos c_10, if_pos c_11]), ht⟩) (fun _ h => nomatch h) dX3_grown_57
        · refine lv_lload_n hx hb dX3_grown_52 rfl (lv_at hl 2 rfl) ?_
          refine lv_goto (tgt := 57) hx hb dX3_grown_53 (by decide) ?_
          exact W.lret hx hb hr (fun t ht _ => ⟨congrArg (fun z => Outcome.returned (some (Value.long z))) (by unfold fX3_grown; rw [if_neg c_1, if_neg c_9, if_pos c_10, if_neg c_11]), ht⟩) (fun _ h => nomatch h) dX3_grown_57
      · by_cases c_12 : x0 = 2
        · refine lv_tableIn (tgt := 58) (off := 43) hx hb dX3_grown_15 (by rw [c_12]; decide) (by rw [c_12]; decide) (by rw [c_12]; rfl) (by decide) ?_
          refine lv_lload_n hx hb dX3_grown_58 rfl (lv_at hl 2 rfl) ?_
          refine lv_lload_n hx hb dX3_grown_59 rfl (lv_at hl 3 rfl) ?_
          refine pl_ge (tgt := 68) hx hb dX3_grown_60 dX3_grown_61 (by decide) (fun c_13 => ?_) (fun c_13 => ?_)
          · refine lv_lload_n hx hb dX3_grown_68 rfl (lv_at hl 3 rfl) ?_
            exact W.lret hx hb hr (fun t ht _ => ⟨congrArg (fun z => Outcome.returned (some (Value.long z))) (by unfold fX3_grown; rw [if_neg c_1, if_neg c_9, if_neg c_10, if_pos c_12, if_pos c_13]), ht⟩) (fun _ h => nomatch h) dX3_grown_69
          · refine lv_lload_n hx hb dX3_grown_64 rfl (lv_at hl 2 rfl) ?_
            refine lv_goto (tgt := 69) hx hb dX3_grown_65 (by decide) ?_
            exact W.lret hx hb hr (fun t ht _ => ⟨congrArg (fun z => Outcome.returned (some (Value.long z))) (by unfold fX3_grown; rw [if_neg c_1, if_neg c_9, if_neg c_10, if_pos c_12, if_neg c_13]), ht⟩) (fun _ h => nomatch h) dX3_grown_69
        · by_cases c_14 : x0 = 3
          · refine lv_tableIn (tgt := 70) (off := 55) hx hb dX3_grown_15 (by rw [c_14]; decide) (by rw [c_14]; decide) (by rw [c_14]; rfl) (by decide) ?_
            refine lv_lload hx hb dX3_grown_70 (lv_at hl 0 rfl) ?_
            exact W.lret hx hb hr (fun t ht _ => ⟨congrArg (fun z => Outcome.returned (some (Value.long z))) (by unfold fX3_grown; rw [if_neg c_1, if_neg c_9, if_neg c_10, if_neg c_12, if_pos c_14]), ht⟩) (fun _ h => nomatch h) dX3_grown_72
          · refine lv_tableOut (tgt := 73) hx hb dX3_grown_15 (by have h0 := lv_neT c_9 (a := 0) rfl; have h1 := lv_neT c_10 (a := 1) rfl; have h2 := lv_neT c_12 (a := 2) rfl; have h3 := lv_neT c_14 (a := 3) rfl; omega) (by decide) ?_
            refine lv_lload_n hx hb dX3_grown_73 rfl (lv_at hl 2 rfl) ?_
            refine lv_lconst (v := 0) hx hb dX3_grown_74 (by decide) ?_
            refine pl_ge (tgt := 84) hx hb dX3_grown_75 dX3_grown_76 (by decide) (fun c_15 => ?_) (fun c_15 => ?_)
            · refine lv_lload_n hx hb dX3_grown_84 rfl (lv_at hl 2 rfl) ?_
              refine lv_lload hx hb dX3_grown_85 (lv_at hl 0 rfl) ?_
              refine lv_lsub hx hb dX3_grown_87 ?_
              exact W.lret hx hb hr (fun t ht _ => ⟨congrArg (fun z => Outcome.returned (some (Value.long z))) (by unfold fX3_grown; rw [if_neg c_1, if_neg c_9, if_neg c_10, if_neg c_12, if_neg c_14, if_pos c_15]), ht⟩) (fun _ h => nomatch h) dX3_grown_88
            · refine lv_lload_n hx hb dX3_grown_79 rfl (lv_at hl 2 rfl) ?_
              refine lv_lneg hx hb dX3_grown_80 ?_
              refine lv_goto (tgt := 85) hx hb dX3_grown_81 (by decide) ?_
              refine lv_lload hx hb dX3_grown_85 (lv_at hl 0 rfl) ?_
              refine lv_lsub hx hb dX3_grown_87 ?_
              exact W.lret hx hb hr (fun t ht _ => ⟨congrArg (fun z => Outcome.returned (some (Value.long z))) (by unfold fX3_grown; rw [if_neg c_1, if_neg c_9, if_neg c_10, if_neg c_12, if_neg c_14, if_neg c_15]), ht⟩) (fun _ h => nomatch h) dX3_grown_88
