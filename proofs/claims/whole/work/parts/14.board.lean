theorem hd_X2_needleAt : yX2_needleAt.cls = RX2 ∧ yX2_needleAt.cls ≠ "java/lang/invoke/MethodHandle" ∧ yX2_needleAt.cls ≠ "java/lang/invoke/VarHandle" ∧ (parseMethodDescriptor yX2_needleAt.desc).map (fun d => d.parameters.length) = some 1 := by decide +kernel
theorem hin_X2_X2_needleAt : ∀ w ∈ wsX20, w ∈ wsX2_needleAt := by decide +kernel
theorem hgN_X2_needleAt : ∀ w ∈ ns_atg, w ∈ wsX2_needleAt := by
  intro w h
  simp only [wsX2_needleAt, List.mem_cons, List.mem_append]
  simp only [h, or_true, true_or]
theorem in8_lt {x : Int32} (h : vp_in x 8) : ¬ x < 0 ∧ x < 8 := by
  have h1 := vp_in_iff.mp h
  have a4 : (0 : Int32).toInt = 0 := rfl
  have a5 : (8 : Int32).toInt = 8 := rfl
  exact ⟨fun q => by have := Int32.lt_iff_toInt_lt.mp q; omega, Int32.lt_iff_toInt_lt.mpr (by omega)⟩
theorem in8_of {x : Int32} (h1 : ¬ x < 0) (h2 : x < 8) : vp_in x 8 := by
  have a1 := mt Int32.lt_iff_toInt_lt.mpr h1
  have a2 := Int32.lt_iff_toInt_lt.mp h2
  have a4 : (0 : Int32).toInt = 0 := rfl
  have a5 : (8 : Int32).toInt = 8 := rfl
  exact vp_in_iff.mpr ⟨by omega, by omega⟩
set_option maxHeartbeats 1000000 in
set_option maxRecDepth 100000 in
theorem c_X2_needleAt_ok (l : Launch) (hfl : l.stackTraces = false) {cyN : ClassId} (D : va_G) (tys : List (ClassId × FieldType)) (ad : Nat → Nat) (L : List Nat) (g : Nat → va_E) (ob arr nd : Nat) (made : Int32) (mvs : Int32) (twi : Int64) (tna : Int32) (fa : Nat → Option Nat) (x1 : Int32) (hL_ob : ob ∈ L) (hL_arr : arr ∈ L) (hg_ob : g ob = .inr (2, [.ref arr, .int made, .int mvs, .long twi, .int tna])) (hg_arr : g arr = .inl (cyN, 8, .inr (.inr (.inr (.inr fa))))) (htN : tys[2]? = some (cyN, .object RX1)) (hia : vp_in x1 8) (hfa : fa x1.toNatClampNeg = some nd) :
    vx_Met l yX2_needleAt wsX2_needleAt ({ frames := 6, cells := 1, slots := 6, locals := 82 }) (PW D tys ad L g [.ref ob, .int x1]) (QR 0 (some (.ref nd))) (XW D tys ad L g 0) 1 6 (fun _ => False) := by
  refine vx_ofW (cc := cX2_needleAt) (maxL := 3) (ret := (some (.object "NeedleBoard$Needle"))) (by decide) rfl ?_
  intro p e s m args below meth c s₁ B hml hout hv
  obtain ⟨rfl, ⟨hP, hK, hD0, hKC0, hTC⟩, hXN⟩ := hv
  have hx := B.exec
  have hb := B.bytes
  have hr := B.returns
  have hts := atoms_spec (ws := wsX2_needleAt) B.pre
  have hown : s.vm.findClass RX2 = some m.cls := findClass_of_methodNamed B.named
  have hlocks := B.notSynchronized
  have hl := lv_entry ([.ref ob, .int x1]) (n := 3) (Nat.le_of_ble_eq_true rfl)
  rw [lg_entry_eq]
  generalize (lg_sl ([.ref ob, .int x1]) ++ List.replicate (3 - (lg_sl ([.ref ob, .int x1])).length) Slot.unset).toArray = ls at hl ⊢
  have hl : lv_has ls 3 [(0, .ref ob), (1, .int x1)] := hl
  refine lv_iload_n hx hb dX2_needleAt_0 rfl (lv_at hl 1 rfl) ?_
  refine lv_if_lt (tgt := 13) hx hb dX2_needleAt_1 (by decide) (fun c_1 => absurd c_1 (in8_lt hia).1) (fun c_1 => ?_)
  refine lv_iload_n hx hb dX2_needleAt_4 rfl (lv_at hl 1 rfl) ?_
  refine lv_aload_n hx hb dX2_needleAt_5 rfl (lv_at hl 0 rfl) ?_
  refine pg_get hx hb hts hin_X2_X2_needleAt hown hK hP hL_ob hg_ob rfl 0 (by decide) (hts (.fieldLink RX2 11 "NeedleBoard" "needles" "[LNeedleBoard$Needle;") (by decide +kernel)) rfl dX2_needleAt_6 ?_
  refine pg_alen (v := 8) hx hb hK hP 2 hL_arr hg_arr htN rfl dX2_needleAt_9 ?_
  refine lv_icmp_lt (tgt := 17) hx hb dX2_needleAt_10 (by decide) (fun c_2 => ?_) (fun c_2 => absurd (in8_lt hia).2 c_2)
  refine lv_aload_n hx hb dX2_needleAt_17 rfl (lv_at hl 0 rfl) ?_
  refine pg_get hx hb hts hin_X2_X2_needleAt hown hK hP hL_ob hg_ob rfl 0 (by decide) (hts (.fieldLink RX2 11 "NeedleBoard" "needles" "[LNeedleBoard$Needle;") (by decide +kernel)) rfl dX2_needleAt_18 ?_
  refine lv_iload_n hx hb dX2_needleAt_21 rfl (lv_at hl 1 rfl) ?_
  refine pg_aald hx hb hK hP 2 hL_arr hg_arr htN hia dX2_needleAt_22 ?_
  rw [hfa]
  refine W.eq (g2 := F0 m 23 ls [.ref nd]) rfl ?_
  refine lv_astore_n (lv' := [(2, .ref nd), (0, .ref ob), (1, .int x1)]) hx hb dX2_needleAt_23 rfl hl (by decide) rfl (fun ls hl => ?_)
  refine lv_aload_n hx hb dX2_needleAt_24 rfl (lv_at hl 0 rfl) ?_
  refine lv_ifnonnull (tgt := 38) hx hb dX2_needleAt_25 (by decide) ?_
  refine lv_aload_n hx hb dX2_needleAt_38 rfl (lv_at hl 0 rfl) ?_
  exact vx_ret (W.widen (k := 1) (n := 6) (Nat.le_of_ble_eq_true rfl) (Nat.le_of_ble_eq_true rfl) (W.aret hx hb hr (Or.inl ⟨_, rfl⟩) (Or.inr ⟨_, rfl⟩) (fun t ht _ => ⟨rfl, rfl, ht⟩) (fun _ h => nomatch h) dX2_needleAt_39))
set_option maxHeartbeats 1000000 in
set_option maxRecDepth 100000 in
theorem c_X2_needleAt_no (l : Launch) (hfl : l.stackTraces = false) {cyN : ClassId} (D : va_G) (tys : List (ClassId × FieldType)) (ad : Nat → Nat) (L : List Nat) (g : Nat → va_E) (ob arr : Nat) (made : Int32) (mvs : Int32) (twi : Int64) (tna : Int32) (fa : Nat → Option Nat) (x1 : Int32) (hL_ob : ob ∈ L) (hL_arr : arr ∈ L) (hg_ob : g ob = .inr (2, [.ref arr, .int made, .int mvs, .long twi, .int tna])) (hg_arr : g arr = .inl (cyN, 8, .inr (.inr (.inr (.inr fa))))) (htN : tys[2]? = some (cyN, .object RX1)) (hab : ¬ vp_in x1 8 ∨ fa x1.toNatClampNeg = none) :
    vx_Met l yX2_needleAt wsX2_needleAt ({ frames := 6, cells := 1, slots := 6, locals := 82 }) (PW D tys ad L g [.ref ob, .int x1]) (QR 1 none) (XW D tys ad L g 1) 1 6 (fun _ => False) := by
  refine vx_ofW (cc := cX2_needleAt) (maxL := 3) (ret := (some (.object "NeedleBoard$Needle"))) (by decide) rfl ?_
  intro p e s m args below meth c s₁ B hml hout hv
  obtain ⟨rfl, ⟨hP, hK, hD0, hKC0, hTC⟩, hXN⟩ := hv
  have hx := B.exec
  have hb := B.bytes
  have hr := B.returns
  have hts := atoms_spec (ws := wsX2_needleAt) B.pre
  have hown : s.vm.findClass RX2 = some m.cls := findClass_of_methodNamed B.named
  have hlocks := B.notSynchronized
  have hl := lv_entry ([.ref ob, .int x1]) (n := 3) (Nat.le_of_ble_eq_true rfl)
  rw [lg_entry_eq]
  generalize (lg_sl ([.ref ob, .int x1]) ++ List.replicate (3 - (lg_sl ([.ref ob, .int x1])).length) Slot.unset).toArray = ls at hl ⊢
  have hl : lv_has ls 3 [(0, .ref ob), (1, .int x1)] := hl
  have K23 : W p l e (headSpec wsX2_needleAt { frames := 6, cells := 1, slots := 6, locals := 82 }).room s m [Value.ref ob, Value.int x1].toArray below meth c s.heap [] 0 0 (vx_MQ below (QR 1 none) (XW D tys ad L g 1) [Value.ref ob, Value.int x1].toArray s 1 6 (fun _ => False)) (F0 m 23 ls [.null]) := by
    refine lv_astore_nN (lv' := [(2, .null), (0, .ref ob), (1, .int x1)]) hx hb dX2_needleAt_23 rfl hl (by decide) rfl (fun ls hl => ?_)
    refine lv_aload_nN hx hb dX2_needleAt_24 rfl (lv_at hl 0 rfl) ?_
    refine lv_ifnonnullN hx hb dX2_needleAt_25 ?_
    exact th_N (is := 163) (text := "there is no such needle") hx hb hfl hown (hts (.classLink RX2 161 "java/util/NoSuchElementException") (by decide +kernel)) (hts (.initialized "java/util/NoSuchElementException") (by decide +kernel)) (fun w hw => hts w (hgN_X2_needleAt w hw)) hXN (by decide +kernel) hP hK hD0 hKC0 hTC (hl.1.trans hml.symm) dX2_needleAt_28 dX2_needleAt_31 dX2_needleAt_32 dX2_needleAt_34 dX2_needleAt_37 hout (Nat.le_of_ble_eq_true rfl) (Nat.le_of_ble_eq_true rfl) (Nat.le_of_ble_eq_true rfl) (Nat.le_of_ble_eq_true rfl) hlocks rfl (Nat.le_of_ble_eq_true rfl) (Nat.le_of_ble_eq_true rfl)
  refine lv_iload_n hx hb dX2_needleAt_0 rfl (lv_at hl 1 rfl) ?_
  refine lv_if_lt (tgt := 13) hx hb dX2_needleAt_1 (by decide) (fun c_1 => ?_) (fun c_1 => ?_)
  · refine lv_null hx hb dX2_needleAt_13 ?_
    refine lv_goto (tgt := 23) hx hb dX2_needleAt_14 (by decide) ?_
    exact K23
  · refine lv_iload_n hx hb dX2_needleAt_4 rfl (lv_at hl 1 rfl) ?_
    refine lv_aload_n hx hb dX2_needleAt_5 rfl (lv_at hl 0 rfl) ?_
    refine pg_get hx hb hts hin_X2_X2_needleAt hown hK hP hL_ob hg_ob rfl 0 (by decide) (hts (.fieldLink RX2 11 "NeedleBoard" "needles" "[LNeedleBoard$Needle;") (by decide +kernel)) rfl dX2_needleAt_6 ?_
    refine pg_alen (v := 8) hx hb hK hP 2 hL_arr hg_arr htN rfl dX2_needleAt_9 ?_
    refine lv_icmp_lt (tgt := 17) hx hb dX2_needleAt_10 (by decide) (fun c_2 => ?_) (fun c_2 => ?_)
    · have hia := in8_of c_1 c_2
      have hfa := hab.resolve_left (fun h => h hia)
      refine lv_aload_n hx hb dX2_needleAt_17 rfl (lv_at hl 0 rfl) ?_
      refine pg_get hx hb hts hin_X2_X2_needleAt hown hK hP hL_ob hg_ob rfl 0 (by decide) (hts (.fieldLink RX2 11 "NeedleBoard" "needles" "[LNeedleBoard$Needle;") (by decide +kernel)) rfl dX2_needleAt_18 ?_
      refine lv_iload_n hx hb dX2_needleAt_21 rfl (lv_at hl 1 rfl) ?_
      refine pg_aald hx hb hK hP 2 hL_arr hg_arr htN hia dX2_needleAt_22 ?_
      rw [hfa]
      exact K23
    · refine lv_null hx hb dX2_needleAt_13 ?_
      refine lv_goto (tgt := 23) hx hb dX2_needleAt_14 (by decide) ?_
      exact K23
def fX2_numberFrom (i : Nat) (x1 : Int64) : Nat × Int64 :=
  if (fX0_isNumber i (fX0_trimmed i x1)) = 0 then
    (2, (0 : Int64))
  else
    (0, fX0_trimmed i x1)
theorem hd_X2_numberFrom : yX2_numberFrom.cls ≠ "java/lang/invoke/MethodHandle" ∧ yX2_numberFrom.cls ≠ "java/lang/invoke/VarHandle" ∧ (parseMethodDescriptor yX2_numberFrom.desc).map (fun d => d.parameters.length) = some 2 := by decide +kernel
theorem hgA_X2_numberFrom : ∀ w ∈ (vx_atS RX2 36 "java/lang/IllegalArgumentException" ["java/lang/RuntimeException", "java/lang/Exception"]).filter goodWord, w ∈ wsX2_numberFrom := by
  intro w h
  simp only [wsX2_numberFrom, List.mem_cons, List.mem_append]
  simp only [h, or_true, true_or]
set_option maxHeartbeats 1000000 in
set_option maxRecDepth 100000 in
theorem c_X2_numberFrom (l : Launch) (hfl : l.stackTraces = false) (D : va_G) (tys : List (ClassId × FieldType)) (ad : Nat → Nat) (L : List Nat) (g : Nat → va_E) (i : Nat) (x1 : Int64) (hi : i < 2) : vx_Met l yX2_numberFrom wsX2_numberFrom ({ frames := 6, cells := 1, slots := 6, locals := 82 }) (PW D tys ad L g [.ref (ad i), .long x1]) (QR ((fX2_numberFrom i x1).1) (some (.long ((fX2_numberFrom i x1).2)))) (XW D tys ad L g ((fX2_numberFrom i x1).1)) 1 6 (fun _ => False) := by
  refine vx_ofW (cc := cX2_numberFrom) (maxL := 5) (ret := (some .long)) (by decide) rfl ?_
  intro p e s m args below meth c s₁ B hml hout hv
  obtain ⟨rfl, ⟨hP, hK, hD0, hKC0, hTC⟩, hXN⟩ := hv
  have hP0 := hP
  have hD : va_D (fun q => q ∈ L) (va_pl L g) := we_D (fun _ h => h) hD0
  have hKC : KC ad (fun q => q ∈ L) s s.heap := hKC0.narrow (fun _ h => Or.inl h)
  have hS : va_S (fun q => q ∈ L) s.heap s.heap [] := va_S.rf
  have hx := B.exec
  have hb := B.bytes
  have hr := B.returns
  have hts := atoms_spec (ws := wsX2_numberFrom) B.pre
  have hown : s.vm.findClass RX2 = some m.cls := findClass_of_methodNamed B.named
  have hlocks := B.notSynchronized
  have hl := lv_entry ([.ref (ad i), .long x1]) (n := 5) (Nat.le_of_ble_eq_true rfl)
  rw [lg_entry_eq]
  generalize (lg_sl ([.ref (ad i), .long x1]) ++ List.replicate (5 - (lg_sl ([.ref (ad i), .long x1])).length) Slot.unset).toArray = ls at hl ⊢
  have hl : lv_has ls 5 [(0, .ref (ad i)), (1, .long x1)] := hl
  refine lv_aload_n hx hb dX2_numberFrom_0 rfl (lv_at hl 0 rfl) ?_
  refine lv_lload_n hx hb dX2_numberFrom_1 rfl (lv_at hl 1 rfl) ?_
  refine pc_V (i := i) (As := [.long x1]) (rest := []) (r := .long (fX0_trimmed i x1)) ⟨hx, hb, hml, hown, hts⟩ (c_X0_trimmed l ad i hi x1) (cwV 1 hts gX2_numberFrom_X0_trimmed rfl rfl rfl hd_X0_trimmed ⟨Nat.le_of_ble_eq_true rfl, Nat.le_of_ble_eq_true rfl⟩) hKC hS hi rfl hl.1 rfl (lv_room (Nat.le_of_ble_eq_true rfl)) dX2_numberFrom_2 ⟨Nat.le_of_ble_eq_true rfl, Nat.le_of_ble_eq_true rfl⟩ ?_
  refine lv_lstore_n (lv' := [(3, .long (fX0_trimmed i x1)), (0, .ref (ad i)), (1, .long x1)]) hx hb dX2_numberFrom_5 rfl hl (by decide) rfl (fun ls hl => ?_)
  refine lv_aload_n hx hb dX2_numberFrom_6 rfl (lv_at hl 1 rfl) ?_
  refine lv_lload_n hx hb dX2_numberFrom_7 rfl (lv_at hl 0 rfl) ?_
  refine pc_V (i := i) (As := [.long (fX0_trimmed i x1)]) (rest := []) (r := .int (fX0_isNumber i (fX0_trimmed i x1))) ⟨hx, hb, hml, hown, hts⟩ (c_X0_isNumber l ad i hi (fX0_trimmed i x1)) (cwV 1 hts gX2_numberFrom_X0_isNumber rfl rfl rfl hd_X0_isNumber ⟨Nat.le_of_ble_eq_true rfl, Nat.le_of_ble_eq_true rfl⟩) hKC hS hi rfl hl.1 rfl (lv_room (Nat.le_of_ble_eq_true rfl)) dX2_numberFrom_8 ⟨Nat.le_of_ble_eq_true rfl, Nat.le_of_ble_eq_true rfl⟩ ?_
  refine lv_if_ne (tgt := 24) hx hb dX2_numberFrom_11 (by decide) (fun c_1 => ?_) (fun c_1 => ?_)
  · refine lv_lload_n hx hb dX2_numberFrom_24 rfl (lv_at hl 0 rfl) ?_
    have hF : fX2_numberFrom i x1 = (0, fX0_trimmed i x1) := (by unfold fX2_numberFrom; rw [if_neg c_1])
    have hF0 : (fX2_numberFrom i x1).1 = 0 := by rw [hF]
    have hF1 : (fX2_numberFrom i x1).2 = fX0_trimmed i x1 := by rw [hF]
    exact vx_ret (W.widen (k := 1) (n := 6) (Nat.le_of_ble_eq_true rfl) (Nat.le_of_ble_eq_true rfl) (W.lret hx hb hr (fun t ht _ => ⟨hF0, congrArg (fun z => Outcome.returned (some (Value.long z))) hF1.symm, ht⟩) (fun _ h => nomatch h) dX2_numberFrom_25))
  · have hF : fX2_numberFrom i x1 = (2, (0 : Int64)) := (by unfold fX2_numberFrom; rw [if_pos c_1])
    exact th_A (is := 173) (text := "these bits tell no number") hx hb hfl hown (hts (.classLink RX2 32 "java/lang/IllegalArgumentException") (by decide +kernel)) (hts (.initialized "java/lang/IllegalArgumentException") (by decide +kernel)) (fun w hw => hts w (hgA_X2_numberFrom w hw)) hXN (by decide +kernel) hP0 hK hD0 hKC0 hTC (hl.1.trans hml.symm) dX2_numberFrom_14 dX2_numberFrom_17 dX2_numberFrom_18 dX2_numberFrom_20 dX2_numberFrom_23 hout (Nat.le_of_ble_eq_true rfl) (Nat.le_of_ble_eq_true rfl) (Nat.le_of_ble_eq_true rfl) (Nat.le_of_ble_eq_true rfl) hlocks (by rw [hF]) (Nat.le_of_ble_eq_true rfl) (Nat.le_of_ble_eq_true rfl)
theorem hd_X2_put : yX2_put.cls = RX2 ∧ yX2_put.cls ≠ "java/lang/invoke/MethodHandle" ∧ yX2_put.cls ≠ "java/lang/invoke/VarHandle" ∧ (parseMethodDescriptor yX2_put.desc).map (fun d => d.parameters.length) = some 2 := by decide +kernel
set_option maxHeartbeats 1000000 in
set_option maxRecDepth 100000 in
theorem c_X2_put_no (l : Launch) (hfl : l.stackTraces = false) {cyN : ClassId} (D : va_G) (tys : List (ClassId × FieldType)) (ad : Nat → Nat) (L : List Nat) (g : Nat → va_E) (ob arr : Nat) (made : Int32) (mvs : Int32) (twi : Int64) (tna : Int32) (fa : Nat → Option Nat) (x1 : Int32) (x2 : Int64) (hL_ob : ob ∈ L) (hL_arr : arr ∈ L) (hg_ob : g ob = .inr (2, [.ref arr, .int made, .int mvs, .long twi, .int tna])) (hg_arr : g arr = .inl (cyN, 8, .inr (.inr (.inr (.inr fa))))) (htN : tys[2]? = some (cyN, .object RX1)) (hab : ¬ vp_in x1 8 ∨ fa x1.toNatClampNeg = none) : vx_Met l yX2_put wsX2_put ({ frames := 7, cells := 1, slots := 6, locals := 104 }) (PW D tys ad L g [.ref ob, .int x1, .long x2]) (QR (1) none) (XW D tys ad L g (1)) 1 6 (fun _ => False) := by
  refine vx_ofW (cc := cX2_put) (maxL := 5) (ret := (some .long)) (by decide) rfl ?_
  intro p e s m args below meth c s₁ B hml hout hv
  obtain ⟨rfl, ⟨hP, hK, hD0, hKC0, hTC⟩, hXN⟩ := hv
  have hP0 := hP
  have hD : va_D (fun q => q ∈ L) (va_pl L g) := we_D (fun _ h => h) hD0
  have hKC : KC ad (fun q => q ∈ L) s s.heap := hKC0.narrow (fun _ h => Or.inl h)
  have hS : va_S (fun q => q ∈ L) s.heap s.heap [] := va_S.rf
  have hx := B.exec
  have hb := B.bytes
  have hr := B.returns
  have hts := atoms_spec (ws := wsX2_put) B.pre
  have hown : s.vm.findClass RX2 = some m.cls := findClass_of_methodNamed B.named
  have hlocks := B.notSynchronized
  have hl := lv_entry ([.ref ob, .int x1, .long x2]) (n := 5) (Nat.le_of_ble_eq_true rfl)
  rw [lg_entry_eq]
  generalize (lg_sl ([.ref ob, .int x1, .long x2]) ++ List.replicate (5 - (lg_sl ([.ref ob, .int x1, .long x2])).length) Slot.unset).toArray = ls at hl ⊢
  have hl : lv_has ls 5 [(0, .ref ob), (1, .int x1), (2, .long x2)] := hl
  refine lv_aload_n hx hb dX2_put_0 rfl (lv_at hl 0 rfl) ?_
  refine lv_iload_n hx hb dX2_put_1 rfl (lv_at hl 1 rfl) ?_
  exact xp_V (b := ob) (As := [.int x1]) (rest := []) ⟨hx, hb, hml, hown, hts⟩ (c_X2_needleAt_no l hfl D tys ad L g  ob arr made mvs twi tna fa x1 hL_ob hL_arr hg_ob hg_arr htN hab) (cwV 1 hts gX2_put_X2_needleAt rfl rfl rfl hd_X2_needleAt ⟨Nat.le_of_ble_eq_true rfl, Nat.le_of_ble_eq_true rfl⟩) (pg_recv hK hP hL_ob hg_ob rfl) (fun U hU hvm => WM hP hK hD hKC0 hTC hS hU hvm) hXN rfl hl.1 rfl (lv_room (Nat.le_of_ble_eq_true rfl)) dX2_put_2 ⟨Nat.le_of_ble_eq_true rfl, Nat.le_of_ble_eq_true rfl⟩ hout hlocks (fun _ => rfl) (Nat.le_of_ble_eq_true rfl) (Nat.le_of_ble_eq_true rfl) (fun h9 => absurd h9 (by decide))
def fX2_put (made : Int32) (mvs : Int32) (twi : Int64) (tna : Int32) (fa : Nat → Option Nat) (i : Nat) (nlo : Int64) (nhi : Int64) (nv : Int64) (nst : Int64) (nhs : Int64) (nls : Int64) (ngs : Int64) (x1 : Int32) (x2 : Int64) : Nat × Int64 × Int64 × Int64 × Int64 × Int64 × Int32 :=
  if ((fX2_numberFrom i x2).1) = 0 then
    (0, (fX1_moveTo i nlo nhi nv nst nhs nls ngs ((fX2_numberFrom i x2).2)).1, (fX1_moveTo i nlo nhi nv nst nhs nls ngs ((fX2_numberFrom i x2).2)).1, (fX1_moveTo i nlo nhi nv nst nhs nls ngs ((fX2_numberFrom i x2).2)).2.1, (fX1_moveTo i nlo nhi nv nst nhs nls ngs ((fX2_numberFrom i x2).2)).2.2.1, (fX1_moveTo i nlo nhi nv nst nhs nls ngs ((fX2_numberFrom i x2).2)).2.2.2, mvs + (1 : Int32))
  else
    ((fX2_numberFrom i x2).1, (0 : Int64), nv, nhs, nls, ngs, mvs)
theorem hin_X1_X2_put : ∀ w ∈ wsX10, w ∈ wsX2_put := by decide +kernel
theorem hin_X2_X2_put : ∀ w ∈ wsX20, w ∈ wsX2_put := by decide +kernel
set_option maxHeartbeats 1000000 in
set_option maxRecDepth 100000 in
theorem c_X2_put (l : Launch) (hfl : l.stackTraces = false) {cyN : ClassId} (D : va_G) (tys : List (ClassId × FieldType)) (ad : Nat → Nat) (L : List Nat) (g : Nat → va_E) (ob arr nd : Nat) (made : Int32) (mvs : Int32) (twi : Int64) (tna : Int32) (fa : Nat → Option Nat) (i : Nat) (nlo : Int64) (nhi : Int64) (nv : Int64) (nst : Int64) (nhs : Int64) (nls : Int64) (ngs : Int64) (x1 : Int32) (x2 : Int64) (hi : i < 2) (hL_ob : ob ∈ L) (hL_arr : arr ∈ L) (hL_nd : nd ∈ L) (hg_ob : g ob = .inr (2, [.ref arr, .int made, .int mvs, .long twi, .int tna])) (hg_arr : g arr = .inl (cyN, 8, .inr (.inr (.inr (.inr fa))))) (hg_nd : g nd = .inr (1, [.ref (ad i), .long nlo, .long nhi, .long nv, .long nst, .long nhs, .long nls, .long ngs])) (ne_ob_nd : ob ≠ nd) (ne_arr_ob : arr ≠ ob) (ne_arr_nd : arr ≠ nd) (ne_nd_ob : nd ≠ ob) (htN : tys[2]? = some (cyN, .object RX1)) (hia : vp_in x1 8) (hfa : fa x1.toNatClampNeg = some nd) : vx_Met l yX2_put wsX2_put ({ frames := 7, cells := 2, slots := 12, locals := 114 }) (PW D tys ad L g [.ref ob, .int x1, .long x2]) (QEc D tys ad L ((fX2_put made mvs twi tna fa i nlo nhi nv nst nhs nls ngs x1 x2).1) (some (.long ((fX2_put made mvs twi tna fa i nlo nhi nv nst nhs nls ngs x1 x2).2.1))) (fun g1 => g1 nd = .inr (1, [.ref (ad i), .long nlo, .long nhi, .long ((fX2_put made mvs twi tna fa i nlo nhi nv nst nhs nls ngs x1 x2).2.2.1), .long nst, .long ((fX2_put made mvs twi tna fa i nlo nhi nv nst nhs nls ngs x1 x2).2.2.2.1), .long ((fX2_put made mvs twi tna fa i nlo nhi nv nst nhs nls ngs x1 x2).2.2.2.2.1), .long ((fX2_put made mvs twi tna fa i nlo nhi nv nst nhs nls ngs x1 x2).2.2.2.2.2.1)]) ∧ g1 ob = .inr (2, [.ref arr, .int made, .int ((fX2_put made mvs twi tna fa i nlo nhi nv nst nhs nls ngs x1 x2).2.2.2.2.2.2), .long twi, .int tna]) ∧ ∀ q : Nat, q ≠ nd → q ≠ ob → g1 q = g q)) (XW D tys ad L g ((fX2_put made mvs twi tna fa i nlo nhi nv nst nhs nls ngs x1 x2).1)) 2 12 (fun q => q ∈ L) := by
  refine vx_ofW (cc := cX2_put) (maxL := 5) (ret := (some .long)) (by decide) rfl ?_
  intro p e s m args below meth c s₁ B hml hout hv
  obtain ⟨rfl, ⟨hP, hK, hD0, hKC0, hTC⟩, hXN⟩ := hv
  have hP0 := hP
  have hD : va_D (fun q => q ∈ L) (va_pl L g) := we_D (fun _ h => h) hD0
  have hKC : KC ad (fun q => q ∈ L) s s.heap := hKC0.narrow (fun _ h => Or.inl h)
  have hS : va_S (fun q => q ∈ L) s.heap s.heap [] := va_S.rf
  have hx := B.exec
  have hb := B.bytes
  have hr := B.returns
  have hts := atoms_spec (ws := wsX2_put) B.pre
  have hown : s.vm.findClass RX2 = some m.cls := findClass_of_methodNamed B.named
  have hlocks := B.notSynchronized
  have hrs : ∀ q : Nat, q ≠ nd → q ≠ ob → g q = g q := fun q _ _ => rfl
  have hl := lv_entry ([.ref ob, .int x1, .long x2]) (n := 5) (Nat.le_of_ble_eq_true rfl)
  rw [lg_entry_eq]
  generalize (lg_sl ([.ref ob, .int x1, .long x2]) ++ List.replicate (5 - (lg_sl ([.ref ob, .int x1, .long x2])).length) Slot.unset).toArray = ls at hl ⊢
  have hl : lv_has ls 5 [(0, .ref ob), (1, .int x1), (2, .long x2)] := hl
  refine lv_aload_n hx hb dX2_put_0 rfl (lv_at hl 0 rfl) ?_
  refine lv_iload_n hx hb dX2_put_1 rfl (lv_at hl 1 rfl) ?_
  refine xp_V (b := ob) (As := [.int x1]) (rest := []) ⟨hx, hb, hml, hown, hts⟩ (c_X2_needleAt_ok l hfl D tys ad L g  ob arr nd made mvs twi tna fa x1 hL_ob hL_arr hg_ob hg_arr htN hia hfa) (cwV 1 hts gX2_put_X2_needleAt rfl rfl rfl hd_X2_needleAt ⟨Nat.le_of_ble_eq_true rfl, Nat.le_of_ble_eq_true rfl⟩) (pg_recv hK hP hL_ob hg_ob rfl) (fun U hU hvm => WM hP hK hD hKC0 hTC hS hU hvm) hXN rfl hl.1 rfl (lv_room (Nat.le_of_ble_eq_true rfl)) dX2_put_2 ⟨Nat.le_of_ble_eq_true rfl, Nat.le_of_ble_eq_true rfl⟩ hout hlocks (fun h9 => absurd rfl h9) (Nat.le_of_ble_eq_true rfl) (Nat.le_of_ble_eq_true rfl) (fun _ => ?_)
  refine W.eq (g2 := F0 m 5 ls [.ref nd]) rfl ?_
  refine lv_astore (lv' := [(4, .ref nd), (0, .ref ob), (1, .int x1), (2, .long x2)]) hx hb dX2_put_5 hl (by decide) rfl (fun ls hl => ?_)
  refine lv_aload hx hb dX2_put_7 (lv_at hl 0 rfl) ?_
  refine lv_aload hx hb dX2_put_9 (lv_at hl 0 rfl) ?_
  refine pg_get hx hb hts hin_X1_X2_put hown hK hP hL_nd hg_nd rfl 0 (by decide) (hts (.fieldLink RX2 55 "NeedleBoard$Needle" "kind" "LNeedleBoard$Kind;") (by decide +kernel)) rfl dX2_put_11 ?_
  refine lv_lload_n hx hb dX2_put_14 rfl (lv_at hl 3 rfl) ?_
  refine xp_S (As := [.ref (ad i), .long x2]) (rest := [.ref nd]) ⟨hx, hb, hml, hown, hts⟩ (c_X2_numberFrom l hfl D tys ad L g  i x2 hi) (va_cwS 2 hts gX2_put_X2_numberFrom rfl rfl rfl hd_X2_numberFrom ⟨Nat.le_of_ble_eq_true rfl, Nat.le_of_ble_eq_true rfl⟩) (fun U hU hvm => WM hP hK hD hKC0 hTC hS hU hvm) hXN rfl hl.1 rfl (lv_room (Nat.le_of_ble_eq_true rfl)) dX2_put_15 ⟨Nat.le_of_ble_eq_true rfl, Nat.le_of_ble_eq_true rfl⟩ hout hlocks (fun c_2 => by rw [show fX2_put made mvs twi tna fa i nlo nhi nv nst nhs nls ngs x1 x2 = ((fX2_numberFrom i x2).1, (0 : Int64), nv, nhs, nls, ngs, mvs) from (by unfold fX2_put; rw [if_neg c_2])]) (Nat.le_of_ble_eq_true rfl) (Nat.le_of_ble_eq_true rfl) (fun c_2 => ?_)
  refine W.eq (g2 := F0 m 18 ls [.long ((fX2_numberFrom i x2).2), .ref nd]) rfl ?_
  refine mc_V (b := nd) (As := [.long ((fX2_numberFrom i x2).2)]) (rest := []) ⟨hx, hb, hml, hown, hts⟩ (c_X1_moveTo l D tys ad L g  nd i nlo nhi nv nst nhs nls ngs ((fX2_numberFrom i x2).2) hi hL_nd hg_nd) (cwV 1 hts gX2_put_X1_moveTo rfl rfl rfl hd_X1_moveTo ⟨Nat.le_of_ble_eq_true rfl, Nat.le_of_ble_eq_true rfl⟩) (pg_recv hK hP hL_nd hg_nd rfl) (fun U hU hvm => WM hP hK hD hKC0 hTC hS hU hvm) hXN hS (fun _ h => h) rfl hl.1 rfl (lv_room (Nat.le_of_ble_eq_true rfl)) dX2_put_18 ⟨Nat.le_of_ble_eq_true rfl, Nat.le_of_ble_eq_true rfl⟩ (fun g1 H locs hp9 hP hD hS => ?_)
  refine W.eq (g2 := F0 m 21 ls []) rfl ?_
  obtain ⟨hn9_nd, hr9⟩ := hp9
  have hg_ob : g1 ob = .inr (2, [.ref arr, .int made, .int mvs, .long twi, .int tna]) := (hr9 ob ne_ob_nd).trans hg_ob
  have hg_arr : g1 arr = .inl (cyN, 8, .inr (.inr (.inr (.inr fa)))) := (hr9 arr ne_arr_nd).trans hg_arr
  have hg_nd : g1 nd = .inr (1, [.ref (ad i), .long nlo, .long nhi, .long ((fX1_moveTo i nlo nhi nv nst nhs nls ngs ((fX2_numberFrom i x2).2)).1), .long nst, .long ((fX1_moveTo i nlo nhi nv nst nhs nls ngs ((fX2_numberFrom i x2).2)).2.1), .long ((fX1_moveTo i nlo nhi nv nst nhs nls ngs ((fX2_numberFrom i x2).2)).2.2.1), .long ((fX1_moveTo i nlo nhi nv nst nhs nls ngs ((fX2_numberFrom i x2).2)).2.2.2)]) := hn9_nd
  have hrs : ∀ q : Nat, q ≠ nd → q ≠ ob → g1 q = g q := fun q h_nd h_ob => (hr9 q h_nd).trans (hrs q h_nd h_ob)
  refine lv_aload_n hx hb dX2_put_21 rfl (lv_at hl 1 rfl) ?_
  refine lv_dup hx hb dX2_put_22 rfl ?_
  refine pg_get hx hb hts hin_X2_X2_put hown hK hP hL_ob hg_ob rfl 2 (by decide) (hts (.fieldLink RX2 62 "NeedleBoard" "moves" "I") (by decide +kernel)) rfl dX2_put_23 ?_
  refine lv_iconst (v := 1) hx hb dX2_put_26 (by decide) ?_
  refine lv_iadd hx hb dX2_put_27 ?_
  refine pg_put (ty := .int) hx hb hts hin_X2_X2_put tyX2 tyX2_ok nmX2 hown hK hP hD hS hL_ob hg_ob rfl 2 (by decide) (hts (.fieldLink RX2 62 "NeedleBoard" "moves" "I") (by decide +kernel)) rfl (by decide +kernel) rfl rfl (Nat.le_of_ble_eq_true rfl) dX2_put_28 (fun H locs hP hD hS => ?_)
  obtain ⟨g2, eg2⟩ : ∃ z : Nat → va_E, z = va_up g1 ob (.inr (2, [.ref arr, .int made, .int (mvs + (1 : Int32)), .long twi, .int tna])) := ⟨_, rfl⟩
  have hP : va_P D vwCl (va_pl L g2) H := by rw [eg2]; exact hP
  have hD : va_D (fun q => q ∈ L) (va_pl L g2) := by rw [eg2]; exact hD
  have hg_ob : g2 ob = .inr (2, [.ref arr, .int made, .int (mvs + (1 : Int32)), .long twi, .int tna]) := by rw [eg2]; exact va_up_self _ _ _
  have hg_arr : g2 arr = .inl (cyN, 8, .inr (.inr (.inr (.inr fa)))) := (congrFun eg2 arr).trans ((va_up_ne _ _ ne_arr_ob).trans hg_arr)
  have hg_nd : g2 nd = .inr (1, [.ref (ad i), .long nlo, .long nhi, .long ((fX1_moveTo i nlo nhi nv nst nhs nls ngs ((fX2_numberFrom i x2).2)).1), .long nst, .long ((fX1_moveTo i nlo nhi nv nst nhs nls ngs ((fX2_numberFrom i x2).2)).2.1), .long ((fX1_moveTo i nlo nhi nv nst nhs nls ngs ((fX2_numberFrom i x2).2)).2.2.1), .long ((fX1_moveTo i nlo nhi nv nst nhs nls ngs ((fX2_numberFrom i x2).2)).2.2.2)]) := (congrFun eg2 nd).trans ((va_up_ne _ _ ne_nd_ob).trans hg_nd)
  have hrs : ∀ q : Nat, q ≠ nd → q ≠ ob → g2 q = g q := fun q h_nd h_ob => (congrFun eg2 q).trans ((va_up_ne _ _ h_ob).trans (hrs q h_nd h_ob))
  refine lv_aload hx hb dX2_put_31 (lv_at hl 0 rfl) ?_
  refine pg_get hx hb hts hin_X1_X2_put hown hK hP hL_nd hg_nd rfl 3 (by decide) (hts (.fieldLink RX2 65 "NeedleBoard$Needle" "value" "J") (by decide +kernel)) rfl dX2_put_33 ?_
  have hF : fX2_put made mvs twi tna fa i nlo nhi nv nst nhs nls ngs x1 x2 = (0, (fX1_moveTo i nlo nhi nv nst nhs nls ngs ((fX2_numberFrom i x2).2)).1, (fX1_moveTo i nlo nhi nv nst nhs nls ngs ((fX2_numberFrom i x2).2)).1, (fX1_moveTo i nlo nhi nv nst nhs nls ngs ((fX2_numberFrom i x2).2)).2.1, (fX1_moveTo i nlo nhi nv nst nhs nls ngs ((fX2_numberFrom i x2).2)).2.2.1, (fX1_moveTo i nlo nhi nv nst nhs nls ngs ((fX2_numberFrom i x2).2)).2.2.2, mvs + (1 : Int32)) := (by unfold fX2_put; rw [if_pos c_2])
  have hF0 : (fX2_put made mvs twi tna fa i nlo nhi nv nst nhs nls ngs x1 x2).1 = 0 := by rw [hF]
  have hF1 : (fX2_put made mvs twi tna fa i nlo nhi nv nst nhs nls ngs x1 x2).2.1 = (fX1_moveTo i nlo nhi nv nst nhs nls ngs ((fX2_numberFrom i x2).2)).1 := by rw [hF]
  have hF2 : (fX2_put made mvs twi tna fa i nlo nhi nv nst nhs nls ngs x1 x2).2.2.1 = (fX1_moveTo i nlo nhi nv nst nhs nls ngs ((fX2_numberFrom i x2).2)).1 := by rw [hF]
  have hF3 : (fX2_put made mvs twi tna fa i nlo nhi nv nst nhs nls ngs x1 x2).2.2.2.1 = (fX1_moveTo i nlo nhi nv nst nhs nls ngs ((fX2_numberFrom i x2).2)).2.1 := by rw [hF]
  have hF4 : (fX2_put made mvs twi tna fa i nlo nhi nv nst nhs nls ngs x1 x2).2.2.2.2.1 = (fX1_moveTo i nlo nhi nv nst nhs nls ngs ((fX2_numberFrom i x2).2)).2.2.1 := by rw [hF]
  have hF5 : (fX2_put made mvs twi tna fa i nlo nhi nv nst nhs nls ngs x1 x2).2.2.2.2.2.1 = (fX1_moveTo i nlo nhi nv nst nhs nls ngs ((fX2_numberFrom i x2).2)).2.2.2 := by rw [hF]
  have hF6 : (fX2_put made mvs twi tna fa i nlo nhi nv nst nhs nls ngs x1 x2).2.2.2.2.2.2 = mvs + (1 : Int32) := by rw [hF]
  exact vx_ret (W.widen (k := 2) (n := 12) (Nat.le_of_ble_eq_true rfl) (Nat.le_of_ble_eq_true rfl) (W.lret hx hb hr (fun t ht hW => ⟨hF0, congrArg (fun z => Outcome.returned (some (Value.long z))) hF1.symm, ⟨g2, WM hP hK hD hKC0 hTC hS ht hW.alike, by rw [hF2, hF3, hF4, hF5, hF6]; exact ⟨hg_nd, hg_ob, hrs⟩⟩, hS.F ht⟩) (fun q h => hS.2.2 q h) dX2_put_36))
theorem hd_X2_turn : yX2_turn.cls = RX2 ∧ yX2_turn.cls ≠ "java/lang/invoke/MethodHandle" ∧ yX2_turn.cls ≠ "java/lang/invoke/VarHandle" ∧ (parseMethodDescriptor yX2_turn.desc).map (fun d => d.parameters.length) = some 2 := by decide +kernel
set_option maxHeartbeats 1000000 in
set_option maxRecDepth 100000 in
theorem c_X2_turn_no (l : Launch) (hfl : l.stackTraces = false) {cyN : ClassId} (D : va_G) (tys : List (ClassId × FieldType)) (ad : Nat → Nat) (L : List Nat) (g : Nat → va_E) (ob arr : Nat) (made : Int32) (mvs : Int32) (twi : Int64) (tna : Int32) (fa : Nat → Option Nat) (x1 : Int32) (x2 : Int64) (hL_ob : ob ∈ L) (hL_arr : arr ∈ L) (hg_ob : g ob = .inr (2, [.ref arr, .int made, .int mvs, .long twi, .int tna])) (hg_arr : g arr = .inl (cyN, 8, .inr (.inr (.inr (.inr fa))))) (htN : tys[2]? = some (cyN, .object RX1)) (hab : ¬ vp_in x1 8 ∨ fa x1.toNatClampNeg = none) : vx_Met l yX2_turn wsX2_turn ({ frames := 7, cells := 1, slots := 6, locals := 104 }) (PW D tys ad L g [.ref ob, .int x1, .long x2]) (QR (1) none) (XW D tys ad L g (1)) 1 6 (fun _ => False) := by
  refine vx_ofW (cc := cX2_turn) (maxL := 7) (ret := (some .long)) (by decide) rfl ?_
  intro p e s m args below meth c s₁ B hml hout hv
  obtain ⟨rfl, ⟨hP, hK, hD0, hKC0, hTC⟩, hXN⟩ := hv
  have hP0 := hP
  have hD : va_D (fun q => q ∈ L) (va_pl L g) := we_D (fun _ h => h) hD0
  have hKC : KC ad (fun q => q ∈ L) s s.heap := hKC0.narrow (fun _ h => Or.inl h)
  have hS : va_S (fun q => q ∈ L) s.heap s.heap [] := va_S.rf
  have hx := B.exec
  have hb := B.bytes
  have hr := B.returns
  have hts := atoms_spec (ws := wsX2_turn) B.pre
  have hown : s.vm.findClass RX2 = some m.cls := findClass_of_methodNamed B.named
  have hlocks := B.notSynchronized
  have hl := lv_entry ([.ref ob, .int x1, .long x2]) (n := 7) (Nat.le_of_ble_eq_true rfl)
  rw [lg_entry_eq]
  generalize (lg_sl ([.ref ob, .int x1, .long x2]) ++ List.replicate (7 - (lg_sl ([.ref ob, .int x1, .long x2])).length) Slot.unset).toArray = ls at hl ⊢
  have hl : lv_has ls 7 [(0, .ref ob), (1, .int x1), (2, .long x2)] := hl
  refine lv_aload_n hx hb dX2_turn_0 rfl (lv_at hl 0 rfl) ?_
  refine lv_iload_n hx hb dX2_turn_1 rfl (lv_at hl 1 rfl) ?_
  exact xp_V (b := ob) (As := [.int x1]) (rest := []) ⟨hx, hb, hml, hown, hts⟩ (c_X2_needleAt_no l hfl D tys ad L g  ob arr made mvs twi tna fa x1 hL_ob hL_arr hg_ob hg_arr htN hab) (cwV 1 hts gX2_turn_X2_needleAt rfl rfl rfl hd_X2_needleAt ⟨Nat.le_of_ble_eq_true rfl, Nat.le_of_ble_eq_true rfl⟩) (pg_recv hK hP hL_ob hg_ob rfl) (fun U hU hvm => WM hP hK hD hKC0 hTC hS hU hvm) hXN rfl hl.1 rfl (lv_room (Nat.le_of_ble_eq_true rfl)) dX2_turn_2 ⟨Nat.le_of_ble_eq_true rfl, Nat.le_of_ble_eq_true rfl⟩ hout hlocks (fun _ => rfl) (Nat.le_of_ble_eq_true rfl) (Nat.le_of_ble_eq_true rfl) (fun h9 => absurd h9 (by decide))
def fX2_turn (made : Int32) (mvs : Int32) (twi : Int64) (tna : Int32) (fa : Nat → Option Nat) (i : Nat) (nlo : Int64) (nhi : Int64) (nv : Int64) (nst : Int64) (nhs : Int64) (nls : Int64) (ngs : Int64) (x1 : Int32) (x2 : Int64) : Nat × Int64 × Int64 × Int64 × Int64 × Int64 × Int32 :=
  if ((fX2_numberFrom i x2).1) = 0 then
    if (fX0_areOppositeInfinities i nv ((fX2_numberFrom i x2).2)) = 0 then
      (0, (fX1_moveTo i nlo nhi nv nst nhs nls ngs (fX0_sum i nv ((fX2_numberFrom i x2).2))).1, (fX1_moveTo i nlo nhi nv nst nhs nls ngs (fX0_sum i nv ((fX2_numberFrom i x2).2))).1, (fX1_moveTo i nlo nhi nv nst nhs nls ngs (fX0_sum i nv ((fX2_numberFrom i x2).2))).2.1, (fX1_moveTo i nlo nhi nv nst nhs nls ngs (fX0_sum i nv ((fX2_numberFrom i x2).2))).2.2.1, (fX1_moveTo i nlo nhi nv nst nhs nls ngs (fX0_sum i nv ((fX2_numberFrom i x2).2))).2.2.2, mvs + (1 : Int32))
    else
      (3, (0 : Int64), nv, nhs, nls, ngs, mvs)
  else
    ((fX2_numberFrom i x2).1, (0 : Int64), nv, nhs, nls, ngs, mvs)
theorem hin_X1_X2_turn : ∀ w ∈ wsX10, w ∈ wsX2_turn := by decide +kernel
theorem hin_X2_X2_turn : ∀ w ∈ wsX20, w ∈ wsX2_turn := by decide +kernel
theorem hgS_X2_turn : ∀ w ∈ (vx_atS RX2 47 "java/lang/IllegalStateException" ["java/lang/RuntimeException", "java/lang/Exception"]).filter goodWord, w ∈ wsX2_turn := by
  intro w h
  simp only [wsX2_turn, List.mem_cons, List.mem_append]
  simp only [h, or_true, true_or]
set_option maxHeartbeats 1000000 in
set_option maxRecDepth 100000 in
theorem c_X2_turn (l : Launch) (hfl : l.stackTraces = false) {cyN : ClassId} (D : va_G) (tys : List (ClassId × FieldType)) (ad : Nat → Nat) (L : List Nat) (g : Nat → va_E) (ob arr nd : Nat) (made : Int32) (mvs : Int32) (twi : Int64) (tna : Int32) (fa : Nat → Option Nat) (i : Nat) (nlo : Int64) (nhi : Int64) (nv : Int64) (nst : Int64) (nhs : Int64) (nls : Int64) (ngs : Int64) (x1 : Int32) (x2 : Int64) (hi : i < 2) (hL_ob : ob ∈ L) (hL_arr : arr ∈ L) (hL_nd : nd ∈ L) (hg_ob : g ob = .inr (2, [.ref arr, .int made, .int mvs, .long twi, .int tna])) (hg_arr : g arr = .inl (cyN, 8, .inr (.inr (.inr (.inr fa))))) (hg_nd : g nd = .inr (1, [.ref (ad i), .long nlo, .long nhi, .long nv, .long nst, .long nhs, .long nls, .long ngs])) (ne_ob_nd : ob ≠ nd) (ne_arr_ob : arr ≠ ob) (ne_arr_nd : arr ≠ nd) (ne_nd_ob : nd ≠ ob) (htN : tys[2]? = some (cyN, .object RX1)) (hia : vp_in x1 8) (hfa : fa x1.toNatClampNeg = some nd) : vx_Met l yX2_turn wsX2_turn ({ frames := 7, cells := 3, slots := 18, locals := 137 }) (PW D tys ad L g [.ref ob, .int x1, .long x2]) (QEc D tys ad L ((fX2_turn made mvs twi tna fa i nlo nhi nv nst nhs nls ngs x1 x2).1) (some (.long ((fX2_turn made mvs twi tna fa i nlo nhi nv nst nhs nls ngs x1 x2).2.1))) (fun g1 => g1 nd = .inr (1, [.ref (ad i), .long nlo, .long nhi, .long ((fX2_turn made mvs twi tna fa i nlo nhi nv nst nhs nls ngs x1 x2).2.2.1), .long nst, .long ((fX2_turn made mvs twi tna fa i nlo nhi nv nst nhs nls ngs x1 x2).2.2.2.1), .long ((fX2_turn made mvs twi tna fa i nlo nhi nv nst nhs nls ngs x1 x2).2.2.2.2.1), .long ((fX2_turn made mvs twi tna fa i nlo nhi nv nst nhs nls ngs x1 x2).2.2.2.2.2.1)]) ∧ g1 ob = .inr (2, [.ref arr, .int made, .int ((fX2_turn made mvs twi tna fa i nlo nhi nv nst nhs nls ngs x1 x2).2.2.2.2.2.2), .long twi, .int tna]) ∧ ∀ q : Nat, q ≠ nd → q ≠ ob → g1 q = g q)) (XW D tys ad L g ((fX2_turn made mvs twi tna fa i nlo nhi nv nst nhs nls ngs x1 x2).1)) 3 18 (fun q => q ∈ L) := by
  refine vx_ofW (cc := cX2_turn) (maxL := 7) (ret := (some .long)) (by decide) rfl ?_
  intro p e s m args below meth c s₁ B hml hout hv
  obtain ⟨rfl, ⟨hP, hK, hD0, hKC0, hTC⟩, hXN⟩ := hv
  have hP0 := hP
  have hD : va_D (fun q => q ∈ L) (va_pl L g) := we_D (fun _ h => h) hD0
  have hKC : KC ad (fun q => q ∈ L) s s.heap := hKC0.narrow (fun _ h => Or.inl h)
  have hS : va_S (fun q => q ∈ L) s.heap s.heap [] := va_S.rf
  have hx := B.exec
  have hb := B.bytes
  have hr := B.returns
  have hts := atoms_spec (ws := wsX2_turn) B.pre
  have hown : s.vm.findClass RX2 = some m.cls := findClass_of_methodNamed B.named
  have hlocks := B.notSynchronized
  have hrs : ∀ q : Nat, q ≠ nd → q ≠ ob → g q = g q := fun q _ _ => rfl
  have hl := lv_entry ([.ref ob, .int x1, .long x2]) (n := 7) (Nat.le_of_ble_eq_true rfl)
  rw [lg_entry_eq]
  generalize (lg_sl ([.ref ob, .int x1, .long x2]) ++ List.replicate (7 - (lg_sl ([.ref ob, .int x1, .long x2])).length) Slot.unset).toArray = ls at hl ⊢
  have hl : lv_has ls 7 [(0, .ref ob), (1, .int x1), (2, .long x2)] := hl
  refine lv_aload_n hx hb dX2_turn_0 rfl (lv_at hl 0 rfl) ?_
  refine lv_iload_n hx hb dX2_turn_1 rfl (lv_at hl 1 rfl) ?_
  refine xp_V (b := ob) (As := [.int x1]) (rest := []) ⟨hx, hb, hml, hown, hts⟩ (c_X2_needleAt_ok l hfl D tys ad L g  ob arr nd made mvs twi tna fa x1 hL_ob hL_arr hg_ob hg_arr htN hia hfa) (cwV 1 hts gX2_turn_X2_needleAt rfl rfl rfl hd_X2_needleAt ⟨Nat.le_of_ble_eq_true rfl, Nat.le_of_ble_eq_true rfl⟩) (pg_recv hK hP hL_ob hg_ob rfl) (fun U hU hvm => WM hP hK hD hKC0 hTC hS hU hvm) hXN rfl hl.1 rfl (lv_room (Nat.le_of_ble_eq_true rfl)) dX2_turn_2 ⟨Nat.le_of_ble_eq_true rfl, Nat.le_of_ble_eq_true rfl⟩ hout hlocks (fun h9 => absurd rfl h9) (Nat.le_of_ble_eq_true rfl) (Nat.le_of_ble_eq_true rfl) (fun _ => ?_)
  refine W.eq (g2 := F0 m 5 ls [.ref nd]) rfl ?_
  refine lv_astore (lv' := [(4, .ref nd), (0, .ref ob), (1, .int x1), (2, .long x2)]) hx hb dX2_turn_5 hl (by decide) rfl (fun ls hl => ?_)
  refine lv_aload hx hb dX2_turn_7 (lv_at hl 0 rfl) ?_
  refine pg_get hx hb hts hin_X1_X2_turn hown hK hP hL_nd hg_nd rfl 0 (by decide) (hts (.fieldLink RX2 55 "NeedleBoard$Needle" "kind" "LNeedleBoard$Kind;") (by decide +kernel)) rfl dX2_turn_9 ?_
  refine lv_lload_n hx hb dX2_turn_12 rfl (lv_at hl 3 rfl) ?_
  refine xp_S (As := [.ref (ad i), .long x2]) (rest := []) ⟨hx, hb, hml, hown, hts⟩ (c_X2_numberFrom l hfl D tys ad L g  i x2 hi) (va_cwS 2 hts gX2_turn_X2_numberFrom rfl rfl rfl hd_X2_numberFrom ⟨Nat.le_of_ble_eq_true rfl, Nat.le_of_ble_eq_true rfl⟩) (fun U hU hvm => WM hP hK hD hKC0 hTC hS hU hvm) hXN rfl hl.1 rfl (lv_room (Nat.le_of_ble_eq_true rfl)) dX2_turn_13 ⟨Nat.le_of_ble_eq_true rfl, Nat.le_of_ble_eq_true rfl⟩ hout hlocks (fun c_2 => by rw [show fX2_turn made mvs twi tna fa i nlo nhi nv nst nhs nls ngs x1 x2 = ((fX2_numberFrom i x2).1, (0 : Int64), nv, nhs, nls, ngs, mvs) from (by unfold fX2_turn; rw [if_neg c_2])]) (Nat.le_of_ble_eq_true rfl) (Nat.le_of_ble_eq_true rfl) (fun c_2 => ?_)
  refine W.eq (g2 := F0 m 16 ls [.long ((fX2_numberFrom i x2).2)]) rfl ?_
  refine lv_lstore (lv' := [(5, .long ((fX2_numberFrom i x2).2)), (4, .ref nd), (0, .ref ob), (1, .int x1), (2, .long x2)]) hx hb dX2_turn_16 hl (by decide) rfl (fun ls hl => ?_)
  refine lv_aload hx hb dX2_turn_18 (lv_at hl 1 rfl) ?_
  refine pg_get hx hb hts hin_X1_X2_turn hown hK hP hL_nd hg_nd rfl 0 (by decide) (hts (.fieldLink RX2 55 "NeedleBoard$Needle" "kind" "LNeedleBoard$Kind;") (by decide +kernel)) rfl dX2_turn_20 ?_
  refine lv_aload hx hb dX2_turn_23 (lv_at hl 1 rfl) ?_
  refine pg_get hx hb hts hin_X1_X2_turn hown hK hP hL_nd hg_nd rfl 3 (by decide) (hts (.fieldLink RX2 65 "NeedleBoard$Needle" "value" "J") (by decide +kernel)) rfl dX2_turn_25 ?_
  refine lv_lload hx hb dX2_turn_28 (lv_at hl 0 rfl) ?_
  refine pc_V (i := i) (As := [.long nv, .long ((fX2_numberFrom i x2).2)]) (rest := []) (r := .int (fX0_areOppositeInfinities i nv ((fX2_numberFrom i x2).2))) ⟨hx, hb, hml, hown, hts⟩ (c_X0_areOppositeInfinities l ad i hi nv ((fX2_numberFrom i x2).2)) (cwV 2 hts gX2_turn_X0_areOppositeInfinities rfl rfl rfl hd_X0_areOppositeInfinities ⟨Nat.le_of_ble_eq_true rfl, Nat.le_of_ble_eq_true rfl⟩) hKC hS hi rfl hl.1 rfl (lv_room (Nat.le_of_ble_eq_true rfl)) dX2_turn_30 ⟨Nat.le_of_ble_eq_true rfl, Nat.le_of_ble_eq_true rfl⟩ ?_
  refine lv_if_eq (tgt := 46) hx hb dX2_turn_33 (by decide) (fun c_3 => ?_) (fun c_3 => ?_)
  · refine lv_aload hx hb dX2_turn_46 (lv_at hl 1 rfl) ?_
    refine lv_aload hx hb dX2_turn_48 (lv_at hl 1 rfl) ?_
    refine pg_get hx hb hts hin_X1_X2_turn hown hK hP hL_nd hg_nd rfl 0 (by decide) (hts (.fieldLink RX2 55 "NeedleBoard$Needle" "kind" "LNeedleBoard$Kind;") (by decide +kernel)) rfl dX2_turn_50 ?_
    refine lv_aload hx hb dX2_turn_53 (lv_at hl 1 rfl) ?_
    refine pg_get hx hb hts hin_X1_X2_turn hown hK hP hL_nd hg_nd rfl 3 (by decide) (hts (.fieldLink RX2 65 "NeedleBoard$Needle" "value" "J") (by decide +kernel)) rfl dX2_turn_55 ?_
    refine lv_lload hx hb dX2_turn_58 (lv_at hl 0 rfl) ?_
    refine pc_V (i := i) (As := [.long nv, .long ((fX2_numberFrom i x2).2)]) (rest := [.ref nd]) (r := .long (fX0_sum i nv ((fX2_numberFrom i x2).2))) ⟨hx, hb, hml, hown, hts⟩ (c_X0_sum l ad i hi nv ((fX2_numberFrom i x2).2)) (cwV 2 hts gX2_turn_X0_sum rfl rfl rfl hd_X0_sum ⟨Nat.le_of_ble_eq_true rfl, Nat.le_of_ble_eq_true rfl⟩) hKC hS hi rfl hl.1 rfl (lv_room (Nat.le_of_ble_eq_true rfl)) dX2_turn_60 ⟨Nat.le_of_ble_eq_true rfl, Nat.le_of_ble_eq_true rfl⟩ ?_
    refine mc_V (b := nd) (As := [.long (fX0_sum i nv ((fX2_numberFrom i x2).2))]) (rest := []) ⟨hx, hb, hml, hown, hts⟩ (c_X1_moveTo l D tys ad L g  nd i nlo nhi nv nst nhs nls ngs (fX0_sum i nv ((fX2_numberFrom i x2).2)) hi hL_nd hg_nd) (cwV 1 hts gX2_turn_X1_moveTo rfl rfl rfl hd_X1_moveTo ⟨Nat.le_of_ble_eq_true rfl, Nat.le_of_ble_eq_true rfl⟩) (pg_recv hK hP hL_nd hg_nd rfl) (fun U hU hvm => WM hP hK hD hKC0 hTC hS hU hvm) hXN hS (fun _ h => h) rfl hl.1 rfl (lv_room (Nat.le_of_ble_eq_true rfl)) dX2_turn_63 ⟨Nat.le_of_ble_eq_true rfl, Nat.le_of_ble_eq_true rfl⟩ (fun g1 H locs hp9 hP hD hS => ?_)
    refine W.eq (g2 := F0 m 66 ls []) rfl ?_
    obtain ⟨hn9_nd, hr9⟩ := hp9
    have hg_ob : g1 ob = .inr (2, [.ref arr, .int made, .int mvs, .long twi, .int tna]) := (hr9 ob ne_ob_nd).trans hg_ob
    have hg_arr : g1 arr = .inl (cyN, 8, .inr (.inr (.inr (.inr fa)))) := (hr9 arr ne_arr_nd).trans hg_arr
    have hg_nd : g1 nd = .inr (1, [.ref (ad i), .long nlo, .long nhi, .long ((fX1_moveTo i nlo nhi nv nst nhs nls ngs (fX0_sum i nv ((fX2_numberFrom i x2).2))).1), .long nst, .long ((fX1_moveTo i nlo nhi nv nst nhs nls ngs (fX0_sum i nv ((fX2_numberFrom i x2).2))).2.1), .long ((fX1_moveTo i nlo nhi nv nst nhs nls ngs (fX0_sum i nv ((fX2_numberFrom i x2).2))).2.2.1), .long ((fX1_moveTo i nlo nhi nv nst nhs nls ngs (fX0_sum i nv ((fX2_numberFrom i x2).2))).2.2.2)]) := hn9_nd
    have hrs : ∀ q : Nat, q ≠ nd → q ≠ ob → g1 q = g q := fun q h_nd h_ob => (hr9 q h_nd).trans (hrs q h_nd h_ob)
    refine lv_aload_n hx hb dX2_turn_66 rfl (lv_at hl 2 rfl) ?_
    refine lv_dup hx hb dX2_turn_67 rfl ?_
    refine pg_get hx hb hts hin_X2_X2_turn hown hK hP hL_ob hg_ob rfl 2 (by decide) (hts (.fieldLink RX2 62 "NeedleBoard" "moves" "I") (by decide +kernel)) rfl dX2_turn_68 ?_
    refine lv_iconst (v := 1) hx hb dX2_turn_71 (by decide) ?_
    refine lv_iadd hx hb dX2_turn_72 ?_
    refine pg_put (ty := .int) hx hb hts hin_X2_X2_turn tyX2 tyX2_ok nmX2 hown hK hP hD hS hL_ob hg_ob rfl 2 (by decide) (hts (.fieldLink RX2 62 "NeedleBoard" "moves" "I") (by decide +kernel)) rfl (by decide +kernel) rfl rfl (Nat.le_of_ble_eq_true rfl) dX2_turn_73 (fun H locs hP hD hS => ?_)
    obtain ⟨g2, eg2⟩ : ∃ z : Nat → va_E, z = va_up g1 ob (.inr (2, [.ref arr, .int made, .int (mvs + (1 : Int32)), .long twi, .int tna])) := ⟨_, rfl⟩
    have hP : va_P D vwCl (va_pl L g2) H := by rw [eg2]; exact hP
    have hD : va_D (fun q => q ∈ L) (va_pl L g2) := by rw [eg2]; exact hD
    have hg_ob : g2 ob = .inr (2, [.ref arr, .int made, .int (mvs + (1 : Int32)), .long twi, .int tna]) := by rw [eg2]; exact va_up_self _ _ _
    have hg_arr : g2 arr = .inl (cyN, 8, .inr (.inr (.inr (.inr fa)))) := (congrFun eg2 arr).trans ((va_up_ne _ _ ne_arr_ob).trans hg_arr)
    have hg_nd : g2 nd = .inr (1, [.ref (ad i), .long nlo, .long nhi, .long ((fX1_moveTo i nlo nhi nv nst nhs nls ngs (fX0_sum i nv ((fX2_numberFrom i x2).2))).1), .long nst, .long ((fX1_moveTo i nlo nhi nv nst nhs nls ngs (fX0_sum i nv ((fX2_numberFrom i x2).2))).2.1), .long ((fX1_moveTo i nlo nhi nv nst nhs nls ngs (fX0_sum i nv ((fX2_numberFrom i x2).2))).2.2.1), .long ((fX1_moveTo i nlo nhi nv nst nhs nls ngs (fX0_sum i nv ((fX2_numberFrom i x2).2))).2.2.2)]) := (congrFun eg2 nd).trans ((va_up_ne _ _ ne_nd_ob).trans hg_nd)
    have hrs : ∀ q : Nat, q ≠ nd → q ≠ ob → g2 q = g q := fun q h_nd h_ob => (congrFun eg2 q).trans ((va_up_ne _ _ h_ob).trans (hrs q h_nd h_ob))
    refine lv_aload hx hb dX2_turn_76 (lv_at hl 1 rfl) ?_
    refine pg_get hx hb hts hin_X1_X2_turn hown hK hP hL_nd hg_nd rfl 3 (by decide) (hts (.fieldLink RX2 65 "NeedleBoard$Needle" "value" "J") (by decide +kernel)) rfl dX2_turn_78 ?_
    have hF : fX2_turn made mvs twi tna fa i nlo nhi nv nst nhs nls ngs x1 x2 = (0, (fX1_moveTo i nlo nhi nv nst nhs nls ngs (fX0_sum i nv ((fX2_numberFrom i x2).2))).1, (fX1_moveTo i nlo nhi nv nst nhs nls ngs (fX0_sum i nv ((fX2_numberFrom i x2).2))).1, (fX1_moveTo i nlo nhi nv nst nhs nls ngs (fX0_sum i nv ((fX2_numberFrom i x2).2))).2.1, (fX1_moveTo i nlo nhi nv nst nhs nls ngs (fX0_sum i nv ((fX2_numberFrom i x2).2))).2.2.1, (fX1_moveTo i nlo nhi nv nst nhs nls ngs (fX0_sum i nv ((fX2_numberFrom i x2).2))).2.2.2, mvs + (1 : Int32)) := (by unfold fX2_turn; rw [if_pos c_2, if_pos c_3])
    have hF0 : (fX2_turn made mvs twi tna fa i nlo nhi nv nst nhs nls ngs x1 x2).1 = 0 := by rw [hF]
    have hF1 : (fX2_turn made mvs twi tna fa i nlo nhi nv nst nhs nls ngs x1 x2).2.1 = (fX1_moveTo i nlo nhi nv nst nhs nls ngs (fX0_sum i nv ((fX2_numberFrom i x2).2))).1 := by rw [hF]
    have hF2 : (fX2_turn made mvs twi tna fa i nlo nhi nv nst nhs nls ngs x1 x2).2.2.1 = (fX1_moveTo i nlo nhi nv nst nhs nls ngs (fX0_sum i nv ((fX2_numberFrom i x2).2))).1 := by rw [hF]
    have hF3 : (fX2_turn made mvs twi tna fa i nlo nhi nv nst nhs nls ngs x1 x2).2.2.2.1 = (fX1_moveTo i nlo nhi nv nst nhs nls ngs (fX0_sum i nv ((fX2_numberFrom i x2).2))).2.1 := by rw [hF]
    have hF4 : (fX2_turn made mvs twi tna fa i nlo nhi nv nst nhs nls ngs x1 x2).2.2.2.2.1 = (fX1_moveTo i nlo nhi nv nst nhs nls ngs (fX0_sum i nv ((fX2_numberFrom i x2).2))).2.2.1 := by rw [hF]
    have hF5 : (fX2_turn made mvs twi tna fa i nlo nhi nv nst nhs nls ngs x1 x2).2.2.2.2.2.1 = (fX1_moveTo i nlo nhi nv nst nhs nls ngs (fX0_sum i nv ((fX2_numberFrom i x2).2))).2.2.2 := by rw [hF]
    have hF6 : (fX2_turn made mvs twi tna fa i nlo nhi nv nst nhs nls ngs x1 x2).2.2.2.2.2.2 = mvs + (1 : Int32) := by rw [hF]
    exact vx_ret (W.widen (k := 3) (n := 18) (Nat.le_of_ble_eq_true rfl) (Nat.le_of_ble_eq_true rfl) (W.lret hx hb hr (fun t ht hW => ⟨hF0, congrArg (fun z => Outcome.returned (some (Value.long z))) hF1.symm, ⟨g2, WM hP hK hD hKC0 hTC hS ht hW.alike, by rw [hF2, hF3, hF4, hF5, hF6]; exact ⟨hg_nd, hg_ob, hrs⟩⟩, hS.F ht⟩) (fun q h => hS.2.2 q h) dX2_turn_81))
  · have hF : fX2_turn made mvs twi tna fa i nlo nhi nv nst nhs nls ngs x1 x2 = (3, (0 : Int64), nv, nhs, nls, ngs, mvs) := (by unfold fX2_turn; rw [if_pos c_2, if_neg c_3])
    exact th_S (is := 72) (text := "opposite infinities have no sum") hx hb hfl hown (hts (.classLink RX2 43 "java/lang/IllegalStateException") (by decide +kernel)) (hts (.initialized "java/lang/IllegalStateException") (by decide +kernel)) (fun w hw => hts w (hgS_X2_turn w hw)) hXN (by decide +kernel) hP0 hK hD0 hKC0 hTC (hl.1.trans hml.symm) dX2_turn_36 dX2_turn_39 dX2_turn_40 dX2_turn_42 dX2_turn_45 hout (Nat.le_of_ble_eq_true rfl) (Nat.le_of_ble_eq_true rfl) (Nat.le_of_ble_eq_true rfl) (Nat.le_of_ble_eq_true rfl) hlocks (by rw [hF]) (Nat.le_of_ble_eq_true rfl) (Nat.le_of_ble_eq_true rfl)
theorem hd_X2_damp : yX2_damp.cls = RX2 ∧ yX2_damp.cls ≠ "java/lang/invoke/MethodHandle" ∧ yX2_damp.cls ≠ "java/lang/invoke/VarHandle" ∧ (parseMethodDescriptor yX2_damp.desc).map (fun d => d.parameters.length) = some 2 := by decide +kernel
set_option maxHeartbeats 1000000 in
set_option maxRecDepth 100000 in
theorem c_X2_damp_no (l : Launch) (hfl : l.stackTraces = false) {cyN : ClassId} (D : va_G) (tys : List (ClassId × FieldType)) (ad : Nat → Nat) (L : List Nat) (g : Nat → va_E) (ob arr : Nat) (made : Int32) (mvs : Int32) (twi : Int64) (tna : Int32) (fa : Nat → Option Nat) (x1 : Int32) (x2 : Int64) (hL_ob : ob ∈ L) (hL_arr : arr ∈ L) (hg_ob : g ob = .inr (2, [.ref arr, .int made, .int mvs, .long twi, .int tna])) (hg_arr : g arr = .inl (cyN, 8, .inr (.inr (.inr (.inr fa))))) (htN : tys[2]? = some (cyN, .object RX1)) (hab : ¬ vp_in x1 8 ∨ fa x1.toNatClampNeg = none) : vx_Met l yX2_damp wsX2_damp ({ frames := 7, cells := 1, slots := 6, locals := 104 }) (PW D tys ad L g [.ref ob, .int x1, .long x2]) (QR (1) none) (XW D tys ad L g (1)) 1 6 (fun _ => False) := by
  refine vx_ofW (cc := cX2_damp) (maxL := 5) (ret := (some .long)) (by decide) rfl ?_
  intro p e s m args below meth c s₁ B hml hout hv
  obtain ⟨rfl, ⟨hP, hK, hD0, hKC0, hTC⟩, hXN⟩ := hv
  have hP0 := hP
  have hD : va_D (fun q => q ∈ L) (va_pl L g) := we_D (fun _ h => h) hD0
  have hKC : KC ad (fun q => q ∈ L) s s.heap := hKC0.narrow (fun _ h => Or.inl h)
  have hS : va_S (fun q => q ∈ L) s.heap s.heap [] := va_S.rf
  have hx := B.exec
  have hb := B.bytes
  have hr := B.returns
  have hts := atoms_spec (ws := wsX2_damp) B.pre
  have hown : s.vm.findClass RX2 = some m.cls := findClass_of_methodNamed B.named
  have hlocks := B.notSynchronized
  have hl := lv_entry ([.ref ob, .int x1, .long x2]) (n := 5) (Nat.le_of_ble_eq_true rfl)
  rw [lg_entry_eq]
  generalize (lg_sl ([.ref ob, .int x1, .long x2]) ++ List.replicate (5 - (lg_sl ([.ref ob, .int x1, .long x2])).length) Slot.unset).toArray = ls at hl ⊢
  have hl : lv_has ls 5 [(0, .ref ob), (1, .int x1), (2, .long x2)] := hl
  refine lv_aload_n hx hb dX2_damp_0 rfl (lv_at hl 0 rfl) ?_
  refine lv_iload_n hx hb dX2_damp_1 rfl (lv_at hl 1 rfl) ?_
  exact xp_V (b := ob) (As := [.int x1]) (rest := []) ⟨hx, hb, hml, hown, hts⟩ (c_X2_needleAt_no l hfl D tys ad L g  ob arr made mvs twi tna fa x1 hL_ob hL_arr hg_ob hg_arr htN hab) (cwV 1 hts gX2_damp_X2_needleAt rfl rfl rfl hd_X2_needleAt ⟨Nat.le_of_ble_eq_true rfl, Nat.le_of_ble_eq_true rfl⟩) (pg_recv hK hP hL_ob hg_ob rfl) (fun U hU hvm => WM hP hK hD hKC0 hTC hS hU hvm) hXN rfl hl.1 rfl (lv_room (Nat.le_of_ble_eq_true rfl)) dX2_damp_2 ⟨Nat.le_of_ble_eq_true rfl, Nat.le_of_ble_eq_true rfl⟩ hout hlocks (fun _ => rfl) (Nat.le_of_ble_eq_true rfl) (Nat.le_of_ble_eq_true rfl) (fun h9 => absurd h9 (by decide))
def fX2_damp (made : Int32) (mvs : Int32) (twi : Int64) (tna : Int32) (fa : Nat → Option Nat) (i : Nat) (nlo : Int64) (nhi : Int64) (nv : Int64) (nst : Int64) (nhs : Int64) (nls : Int64) (ngs : Int64) (x1 : Int32) (x2 : Int64) : Nat × Int64 × Int64 :=
  if ((fX2_numberFrom i x2).1) = 0 then
    (0, fX0_sizeOf i ((fX2_numberFrom i x2).2), fX0_sizeOf i ((fX2_numberFrom i x2).2))
  else
    ((fX2_numberFrom i x2).1, (0 : Int64), nst)
theorem hin_X1_X2_damp : ∀ w ∈ wsX10, w ∈ wsX2_damp := by decide +kernel
set_option maxHeartbeats 1000000 in
set_option maxRecDepth 100000 in
theorem c_X2_damp (l : Launch) (hfl : l.stackTraces = false) {cyN : ClassId} (D : va_G) (tys : List (ClassId × FieldType)) (ad : Nat → Nat) (L : List Nat) (g : Nat → va_E) (ob arr nd : Nat) (made : Int32) (mvs : Int32) (twi : Int64) (tna : Int32) (fa : Nat → Option Nat) (i : Nat) (nlo : Int64) (nhi : Int64) (nv : Int64) (nst : Int64) (nhs : Int64) (nls : Int64) (ngs : Int64) (x1 : Int32) (x2 : Int64) (hi : i < 2) (hL_ob : ob ∈ L) (hL_arr : arr ∈ L) (hL_nd : nd ∈ L) (hg_ob : g ob = .inr (2, [.ref arr, .int made, .int mvs, .long twi, .int tna])) (hg_arr : g arr = .inl (cyN, 8, .inr (.inr (.inr (.inr fa))))) (hg_nd : g nd = .inr (1, [.ref (ad i), .long nlo, .long nhi, .long nv, .long nst, .long nhs, .long nls, .long ngs])) (ne_ob_nd : ob ≠ nd) (ne_arr_nd : arr ≠ nd) (htN : tys[2]? = some (cyN, .object RX1)) (hia : vp_in x1 8) (hfa : fa x1.toNatClampNeg = some nd) : vx_Met l yX2_damp wsX2_damp ({ frames := 7, cells := 2, slots := 12, locals := 106 }) (PW D tys ad L g [.ref ob, .int x1, .long x2]) (QEc D tys ad L ((fX2_damp made mvs twi tna fa i nlo nhi nv nst nhs nls ngs x1 x2).1) (some (.long ((fX2_damp made mvs twi tna fa i nlo nhi nv nst nhs nls ngs x1 x2).2.1))) (fun g1 => g1 nd = .inr (1, [.ref (ad i), .long nlo, .long nhi, .long nv, .long ((fX2_damp made mvs twi tna fa i nlo nhi nv nst nhs nls ngs x1 x2).2.2), .long nhs, .long nls, .long ngs]) ∧ ∀ q : Nat, q ≠ nd → g1 q = g q)) (XW D tys ad L g ((fX2_damp made mvs twi tna fa i nlo nhi nv nst nhs nls ngs x1 x2).1)) 2 12 (fun q => q ∈ L) := by
  refine vx_ofW (cc := cX2_damp) (maxL := 5) (ret := (some .long)) (by decide) rfl ?_
  intro p e s m args below meth c s₁ B hml hout hv
  obtain ⟨rfl, ⟨hP, hK, hD0, hKC0, hTC⟩, hXN⟩ := hv
  have hP0 := hP
  have hD : va_D (fun q => q ∈ L) (va_pl L g) := we_D (fun _ h => h) hD0
  have hKC : KC ad (fun q => q ∈ L) s s.heap := hKC0.narrow (fun _ h => Or.inl h)
  have hS : va_S (fun q => q ∈ L) s.heap s.heap [] := va_S.rf
  have hx := B.exec
  have hb := B.bytes
  have hr := B.returns
  have hts := atoms_spec (ws := wsX2_damp) B.pre
  have hown : s.vm.findClass RX2 = some m.cls := findClass_of_methodNamed B.named
  have hlocks := B.notSynchronized
  have hrs : ∀ q : Nat, q ≠ nd → g q = g q := fun q _ => rfl
  have hl := lv_entry ([.ref ob, .int x1, .long x2]) (n := 5) (Nat.le_of_ble_eq_true rfl)
  rw [lg_entry_eq]
  generalize (lg_sl ([.ref ob, .int x1, .long x2]) ++ List.replicate (5 - (lg_sl ([.ref ob, .int x1, .long x2])).length) Slot.unset).toArray = ls at hl ⊢
  have hl : lv_has ls 5 [(0, .ref ob), (1, .int x1), (2, .long x2)] := hl
  refine lv_aload_n hx hb dX2_damp_0 rfl (lv_at hl 0 rfl) ?_
  refine lv_iload_n hx hb dX2_damp_1 rfl (lv_at hl 1 rfl) ?_
  refine xp_V (b := ob) (As := [.int x1]) (rest := []) ⟨hx, hb, hml, hown, hts⟩ (c_X2_needleAt_ok l hfl D tys ad L g  ob arr nd made mvs twi tna fa x1 hL_ob hL_arr hg_ob hg_arr htN hia hfa) (cwV 1 hts gX2_damp_X2_needleAt rfl rfl rfl hd_X2_needleAt ⟨Nat.le_of_ble_eq_true rfl, Nat.le_of_ble_eq_true rfl⟩) (pg_recv hK hP hL_ob hg_ob rfl) (fun U hU hvm => WM hP hK hD hKC0 hTC hS hU hvm) hXN rfl hl.1 rfl (lv_room (Nat.le_of_ble_eq_true rfl)) dX2_damp_2 ⟨Nat.le_of_ble_eq_true rfl, Nat.le_of_ble_eq_true rfl⟩ hout hlocks (fun h9 => absurd rfl h9) (Nat.le_of_ble_eq_true rfl) (Nat.le_of_ble_eq_true rfl) (fun _ => ?_)
  refine W.eq (g2 := F0 m 5 ls [.ref nd]) rfl ?_
  refine lv_astore (lv' := [(4, .ref nd), (0, .ref ob), (1, .int x1), (2, .long x2)]) hx hb dX2_damp_5 hl (by decide) rfl (fun ls hl => ?_)
  refine lv_aload hx hb dX2_damp_7 (lv_at hl 0 rfl) ?_
  refine lv_aload hx hb dX2_damp_9 (lv_at hl 0 rfl) ?_
  refine pg_get hx hb hts hin_X1_X2_damp hown hK hP hL_nd hg_nd rfl 0 (by decide) (hts (.fieldLink RX2 55 "NeedleBoard$Needle" "kind" "LNeedleBoard$Kind;") (by decide +kernel)) rfl dX2_damp_11 ?_
  refine lv_aload hx hb dX2_damp_14 (lv_at hl 0 rfl) ?_
  refine pg_get hx hb hts hin_X1_X2_damp hown hK hP hL_nd hg_nd rfl 0 (by decide) (hts (.fieldLink RX2 55 "NeedleBoard$Needle" "kind" "LNeedleBoard$Kind;") (by decide +kernel)) rfl dX2_damp_16 ?_
  refine lv_lload_n hx hb dX2_damp_19 rfl (lv_at hl 3 rfl) ?_
  refine xp_S (As := [.ref (ad i), .long x2]) (rest := [.ref (ad i), .ref nd]) ⟨hx, hb, hml, hown, hts⟩ (c_X2_numberFrom l hfl D tys ad L g  i x2 hi) (va_cwS 2 hts gX2_damp_X2_numberFrom rfl rfl rfl hd_X2_numberFrom ⟨Nat.le_of_ble_eq_true rfl, Nat.le_of_ble_eq_true rfl⟩) (fun U hU hvm => WM hP hK hD hKC0 hTC hS hU hvm) hXN rfl hl.1 rfl (lv_room (Nat.le_of_ble_eq_true rfl)) dX2_damp_20 ⟨Nat.le_of_ble_eq_true rfl, Nat.le_of_ble_eq_true rfl⟩ hout hlocks (fun c_2 => by rw [show fX2_damp made mvs twi tna fa i nlo nhi nv nst nhs nls ngs x1 x2 = ((fX2_numberFrom i x2).1, (0 : Int64), nst) from (by unfold fX2_damp; rw [if_neg c_2])]) (Nat.le_of_ble_eq_true rfl) (Nat.le_of_ble_eq_true rfl) (fun c_2 => ?_)
  refine W.eq (g2 := F0 m 23 ls [.long ((fX2_numberFrom i x2).2), .ref (ad i), .ref nd]) rfl ?_
  refine pc_V (i := i) (As := [.long ((fX2_numberFrom i x2).2)]) (rest := [.ref nd]) (r := .long (fX0_sizeOf i ((fX2_numberFrom i x2).2))) ⟨hx, hb, hml, hown, hts⟩ (c_X0_sizeOf l ad i hi ((fX2_numberFrom i x2).2)) (cwV 1 hts gX2_damp_X0_sizeOf rfl rfl rfl hd_X0_sizeOf ⟨Nat.le_of_ble_eq_true rfl, Nat.le_of_ble_eq_true rfl⟩) hKC hS hi rfl hl.1 rfl (lv_room (Nat.le_of_ble_eq_true rfl)) dX2_damp_23 ⟨Nat.le_of_ble_eq_true rfl, Nat.le_of_ble_eq_true rfl⟩ ?_
  refine pg_put (ty := .long) hx hb hts hin_X1_X2_damp tyX1 tyX1_ok nmX1 hown hK hP hD hS hL_nd hg_nd rfl 4 (by decide) (hts (.fieldLink RX2 82 "NeedleBoard$Needle" "step" "J") (by decide +kernel)) rfl (by decide +kernel) rfl rfl (Nat.le_of_ble_eq_true rfl) dX2_damp_26 (fun H locs hP hD hS => ?_)
  obtain ⟨g1, eg1⟩ : ∃ z : Nat → va_E, z = va_up g nd (.inr (1, [.ref (ad i), .long nlo, .long nhi, .long nv, .long (fX0_sizeOf i ((fX2_numberFrom i x2).2)), .long nhs, .long nls, .long ngs])) := ⟨_, rfl⟩
  have hP : va_P D vwCl (va_pl L g1) H := by rw [eg1]; exact hP
  have hD : va_D (fun q => q ∈ L) (va_pl L g1) := by rw [eg1]; exact hD
  have hg_nd : g1 nd = .inr (1, [.ref (ad i), .long nlo, .long nhi, .long nv, .long (fX0_sizeOf i ((fX2_numberFrom i x2).2)), .long nhs, .long nls, .long ngs]) := by rw [eg1]; exact va_up_self _ _ _
  have hg_ob : g1 ob = .inr (2, [.ref arr, .int made, .int mvs, .long twi, .int tna]) := (congrFun eg1 ob).trans ((va_up_ne _ _ ne_ob_nd).trans hg_ob)
  have hg_arr : g1 arr = .inl (cyN, 8, .inr (.inr (.inr (.inr fa)))) := (congrFun eg1 arr).trans ((va_up_ne _ _ ne_arr_nd).trans hg_arr)
  have hrs : ∀ q : Nat, q ≠ nd → g1 q = g q := fun q h_nd => (congrFun eg1 q).trans ((va_up_ne _ _ h_nd).trans (hrs q h_nd))
  refine lv_aload hx hb dX2_damp_29 (lv_at hl 0 rfl) ?_
  refine pg_get hx hb hts hin_X1_X2_damp hown hK hP hL_nd hg_nd rfl 4 (by decide) (hts (.fieldLink RX2 82 "NeedleBoard$Needle" "step" "J") (by decide +kernel)) rfl dX2_damp_31 ?_
  have hF : fX2_damp made mvs twi tna fa i nlo nhi nv nst nhs nls ngs x1 x2 = (0, fX0_sizeOf i ((fX2_numberFrom i x2).2), fX0_sizeOf i ((fX2_numberFrom i x2).2)) := (by unfold fX2_damp; rw [if_pos c_2])
  have hF0 : (fX2_damp made mvs twi tna fa i nlo nhi nv nst nhs nls ngs x1 x2).1 = 0 := by rw [hF]
  have hF1 : (fX2_damp made mvs twi tna fa i nlo nhi nv nst nhs nls ngs x1 x2).2.1 = fX0_sizeOf i ((fX2_numberFrom i x2).2) := by rw [hF]
  have hF2 : (fX2_damp made mvs twi tna fa i nlo nhi nv nst nhs nls ngs x1 x2).2.2 = fX0_sizeOf i ((fX2_numberFrom i x2).2) := by rw [hF]
  exact vx_ret (W.widen (k := 2) (n := 12) (Nat.le_of_ble_eq_true rfl) (Nat.le_of_ble_eq_true rfl) (W.lret hx hb hr (fun t ht hW => ⟨hF0, congrArg (fun z => Outcome.returned (some (Value.long z))) hF1.symm, ⟨g1, WM hP hK hD hKC0 hTC hS ht hW.alike, by rw [hF2]; exact ⟨hg_nd, hrs⟩⟩, hS.F ht⟩) (fun q h => hS.2.2 q h) dX2_damp_34))
theorem hd_X2_pull : yX2_pull.cls = RX2 ∧ yX2_pull.cls ≠ "java/lang/invoke/MethodHandle" ∧ yX2_pull.cls ≠ "java/lang/invoke/VarHandle" ∧ (parseMethodDescriptor yX2_pull.desc).map (fun d => d.parameters.length) = some 2 := by decide +kernel
set_option maxHeartbeats 1000000 in
set_option maxRecDepth 100000 in
theorem c_X2_pull_no (l : Launch) (hfl : l.stackTraces = false) {cyN : ClassId} (D : va_G) (tys : List (ClassId × FieldType)) (ad : Nat → Nat) (L : List Nat) (g : Nat → va_E) (ob arr : Nat) (made : Int32) (mvs : Int32) (twi : Int64) (tna : Int32) (fa : Nat → Option Nat) (x1 : Int32) (x2 : Int64) (hL_ob : ob ∈ L) (hL_arr : arr ∈ L) (hg_ob : g ob = .inr (2, [.ref arr, .int made, .int mvs, .long twi, .int tna])) (hg_arr : g arr = .inl (cyN, 8, .inr (.inr (.inr (.inr fa))))) (htN : tys[2]? = some (cyN, .object RX1)) (hab : ¬ vp_in x1 8 ∨ fa x1.toNatClampNeg = none) : vx_Met l yX2_pull wsX2_pull ({ frames := 7, cells := 1, slots := 6, locals := 104 }) (PW D tys ad L g [.ref ob, .int x1, .long x2]) (QR (1) none) (XW D tys ad L g (1)) 1 6 (fun _ => False) := by
  refine vx_ofW (cc := cX2_pull) (maxL := 7) (ret := (some .boolean)) (by decide) rfl ?_
  intro p e s m args below meth c s₁ B hml hout hv
  obtain ⟨rfl, ⟨hP, hK, hD0, hKC0, hTC⟩, hXN⟩ := hv
  have hP0 := hP
  have hD : va_D (fun q => q ∈ L) (va_pl L g) := we_D (fun _ h => h) hD0
  have hKC : KC ad (fun q => q ∈ L) s s.heap := hKC0.narrow (fun _ h => Or.inl h)
  have hS : va_S (fun q => q ∈ L) s.heap s.heap [] := va_S.rf
  have hx := B.exec
  have hb := B.bytes
  have hr := B.returns
  have hts := atoms_spec (ws := wsX2_pull) B.pre
  have hown : s.vm.findClass RX2 = some m.cls := findClass_of_methodNamed B.named
  have hlocks := B.notSynchronized
  have hl := lv_entry ([.ref ob, .int x1, .long x2]) (n := 7) (Nat.le_of_ble_eq_true rfl)
  rw [lg_entry_eq]
  generalize (lg_sl ([.ref ob, .int x1, .long x2]) ++ List.replicate (7 - (lg_sl ([.ref ob, .int x1, .long x2])).length) Slot.unset).toArray = ls at hl ⊢
  have hl : lv_has ls 7 [(0, .ref ob), (1, .int x1), (2, .long x2)] := hl
  refine lv_aload_n hx hb dX2_pull_0 rfl (lv_at hl 0 rfl) ?_
  refine lv_iload_n hx hb dX2_pull_1 rfl (lv_at hl 1 rfl) ?_
  exact xp_V (b := ob) (As := [.int x1]) (rest := []) ⟨hx, hb, hml, hown, hts⟩ (c_X2_needleAt_no l hfl D tys ad L g  ob arr made mvs twi tna fa x1 hL_ob hL_arr hg_ob hg_arr htN hab) (cwV 1 hts gX2_pull_X2_needleAt rfl rfl rfl hd_X2_needleAt ⟨Nat.le_of_ble_eq_true rfl, Nat.le_of_ble_eq_true rfl⟩) (pg_recv hK hP hL_ob hg_ob rfl) (fun U hU hvm => WM hP hK hD hKC0 hTC hS hU hvm) hXN rfl hl.1 rfl (lv_room (Nat.le_of_ble_eq_true rfl)) dX2_pull_2 ⟨Nat.le_of_ble_eq_true rfl, Nat.le_of_ble_eq_true rfl⟩ hout hlocks (fun _ => rfl) (Nat.le_of_ble_eq_true rfl) (Nat.le_of_ble_eq_true rfl) (fun h9 => absurd h9 (by decide))
def fX2_pull (made : Int32) (mvs : Int32) (twi : Int64) (tna : Int32) (fa : Nat → Option Nat) (i : Nat) (nlo : Int64) (nhi : Int64) (nv : Int64) (nst : Int64) (nhs : Int64) (nls : Int64) (ngs : Int64) (x1 : Int32) (x2 : Int64) : Nat × Int32 × Int64 × Int64 × Int64 × Int64 × Int32 :=
  if ((fX2_numberFrom i x2).1) = 0 then
    (0, fX0_areAlike i ((fX1_moveTo i nlo nhi nv nst nhs nls ngs (fX1_stepTowards i nlo nhi nv nst nhs nls ngs ((fX2_numberFrom i x2).2))).1) ((fX2_numberFrom i x2).2), (fX1_moveTo i nlo nhi nv nst nhs nls ngs (fX1_stepTowards i nlo nhi nv nst nhs nls ngs ((fX2_numberFrom i x2).2))).1, (fX1_moveTo i nlo nhi nv nst nhs nls ngs (fX1_stepTowards i nlo nhi nv nst nhs nls ngs ((fX2_numberFrom i x2).2))).2.1, (fX1_moveTo i nlo nhi nv nst nhs nls ngs (fX1_stepTowards i nlo nhi nv nst nhs nls ngs ((fX2_numberFrom i x2).2))).2.2.1, (fX1_moveTo i nlo nhi nv nst nhs nls ngs (fX1_stepTowards i nlo nhi nv nst nhs nls ngs ((fX2_numberFrom i x2).2))).2.2.2, mvs + (1 : Int32))
  else
    ((fX2_numberFrom i x2).1, (0 : Int32), nv, nhs, nls, ngs, mvs)
theorem hin_X1_X2_pull : ∀ w ∈ wsX10, w ∈ wsX2_pull := by decide +kernel
theorem hin_X2_X2_pull : ∀ w ∈ wsX20, w ∈ wsX2_pull := by decide +kernel
set_option maxHeartbeats 1000000 in
set_option maxRecDepth 100000 in
theorem c_X2_pull (l : Launch) (hfl : l.stackTraces = false) {cyN : ClassId} (D : va_G) (tys : List (ClassId × FieldType)) (ad : Nat → Nat) (L : List Nat) (g : Nat → va_E) (ob arr nd : Nat) (made : Int32) (mvs : Int32) (twi : Int64) (tna : Int32) (fa : Nat → Option Nat) (i : Nat) (nlo : Int64) (nhi : Int64) (nv : Int64) (nst : Int64) (nhs : Int64) (nls : Int64) (ngs : Int64) (x1 : Int32) (x2 : Int64) (hi : i < 2) (hL_ob : ob ∈ L) (hL_arr : arr ∈ L) (hL_nd : nd ∈ L) (hg_ob : g ob = .inr (2, [.ref arr, .int made, .int mvs, .long twi, .int tna])) (hg_arr : g arr = .inl (cyN, 8, .inr (.inr (.inr (.inr fa))))) (hg_nd : g nd = .inr (1, [.ref (ad i), .long nlo, .long nhi, .long nv, .long nst, .long nhs, .long nls, .long ngs])) (ne_ob_nd : ob ≠ nd) (ne_arr_ob : arr ≠ ob) (ne_arr_nd : arr ≠ nd) (ne_nd_ob : nd ≠ ob) (htN : tys[2]? = some (cyN, .object RX1)) (hia : vp_in x1 8) (hfa : fa x1.toNatClampNeg = some nd) : vx_Met l yX2_pull wsX2_pull ({ frames := 7, cells := 2, slots := 12, locals := 161 }) (PW D tys ad L g [.ref ob, .int x1, .long x2]) (QEc D tys ad L ((fX2_pull made mvs twi tna fa i nlo nhi nv nst nhs nls ngs x1 x2).1) (some (.int ((fX2_pull made mvs twi tna fa i nlo nhi nv nst nhs nls ngs x1 x2).2.1))) (fun g1 => g1 nd = .inr (1, [.ref (ad i), .long nlo, .long nhi, .long ((fX2_pull made mvs twi tna fa i nlo nhi nv nst nhs nls ngs x1 x2).2.2.1), .long nst, .long ((fX2_pull made mvs twi tna fa i nlo nhi nv nst nhs nls ngs x1 x2).2.2.2.1), .long ((fX2_pull made mvs twi tna fa i nlo nhi nv nst nhs nls ngs x1 x2).2.2.2.2.1), .long ((fX2_pull made mvs twi tna fa i nlo nhi nv nst nhs nls ngs x1 x2).2.2.2.2.2.1)]) ∧ g1 ob = .inr (2, [.ref arr, .int made, .int ((fX2_pull made mvs twi tna fa i nlo nhi nv nst nhs nls ngs x1 x2).2.2.2.2.2.2), .long twi, .int tna]) ∧ ∀ q : Nat, q ≠ nd → q ≠ ob → g1 q = g q)) (XW D tys ad L g ((fX2_pull made mvs twi tna fa i nlo nhi nv nst nhs nls ngs x1 x2).1)) 2 12 (fun q => q ∈ L) := by
  refine vx_ofW (cc := cX2_pull) (maxL := 7) (ret := (some .boolean)) (by decide) rfl ?_
  intro p e s m args below meth c s₁ B hml hout hv
  obtain ⟨rfl, ⟨hP, hK, hD0, hKC0, hTC⟩, hXN⟩ := hv
  have hP0 := hP
  have hD : va_D (fun q => q ∈ L) (va_pl L g) := we_D (fun _ h => h) hD0
  have hKC : KC ad (fun q => q ∈ L) s s.heap := hKC0.narrow (fun _ h => Or.inl h)
  have hS : va_S (fun q => q ∈ L) s.heap s.heap [] := va_S.rf
  have hx := B.exec
  have hb := B.bytes
  have hr := B.returns
  have hts := atoms_spec (ws := wsX2_pull) B.pre
  have hown : s.vm.findClass RX2 = some m.cls := findClass_of_methodNamed B.named
  have hlocks := B.notSynchronized
  have hrs : ∀ q : Nat, q ≠ nd → q ≠ ob → g q = g q := fun q _ _ => rfl
  have hl := lv_entry ([.ref ob, .int x1, .long x2]) (n := 7) (Nat.le_of_ble_eq_true rfl)
  rw [lg_entry_eq]
  generalize (lg_sl ([.ref ob, .int x1, .long x2]) ++ List.replicate (7 - (lg_sl ([.ref ob, .int x1, .long x2])).length) Slot.unset).toArray = ls at hl ⊢
  have hl : lv_has ls 7 [(0, .ref ob), (1, .int x1), (2, .long x2)] := hl
  refine lv_aload_n hx hb dX2_pull_0 rfl (lv_at hl 0 rfl) ?_
  refine lv_iload_n hx hb dX2_pull_1 rfl (lv_at hl 1 rfl) ?_
  refine xp_V (b := ob) (As := [.int x1]) (rest := []) ⟨hx, hb, hml, hown, hts⟩ (c_X2_needleAt_ok l hfl D tys ad L g  ob arr nd made mvs twi tna fa x1 hL_ob hL_arr hg_ob hg_arr htN hia hfa) (cwV 1 hts gX2_pull_X2_needleAt rfl rfl rfl hd_X2_needleAt ⟨Nat.le_of_ble_eq_true rfl, Nat.le_of_ble_eq_true rfl⟩) (pg_recv hK hP hL_ob hg_ob rfl) (fun U hU hvm => WM hP hK hD hKC0 hTC hS hU hvm) hXN rfl hl.1 rfl (lv_room (Nat.le_of_ble_eq_true rfl)) dX2_pull_2 ⟨Nat.le_of_ble_eq_true rfl, Nat.le_of_ble_eq_true rfl⟩ hout hlocks (fun h9 => absurd rfl h9) (Nat.le_of_ble_eq_true rfl) (Nat.le_of_ble_eq_true rfl) (fun _ => ?_)
  refine W.eq (g2 := F0 m 5 ls [.ref nd]) rfl ?_
  refine lv_astore (lv' := [(4, .ref nd), (0, .ref ob), (1, .int x1), (2, .long x2)]) hx hb dX2_pull_5 hl (by decide) rfl (fun ls hl => ?_)
  refine lv_aload hx hb dX2_pull_7 (lv_at hl 0 rfl) ?_
  refine pg_get hx hb hts hin_X1_X2_pull hown hK hP hL_nd hg_nd rfl 0 (by decide) (hts (.fieldLink RX2 55 "NeedleBoard$Needle" "kind" "LNeedleBoard$Kind;") (by decide +kernel)) rfl dX2_pull_9 ?_
  refine lv_lload_n hx hb dX2_pull_12 rfl (lv_at hl 3 rfl) ?_
  refine xp_S (As := [.ref (ad i), .long x2]) (rest := []) ⟨hx, hb, hml, hown, hts⟩ (c_X2_numberFrom l hfl D tys ad L g  i x2 hi) (va_cwS 2 hts gX2_pull_X2_numberFrom rfl rfl rfl hd_X2_numberFrom ⟨Nat.le_of_ble_eq_true rfl, Nat.le_of_ble_eq_true rfl⟩) (fun U hU hvm => WM hP hK hD hKC0 hTC hS hU hvm) hXN rfl hl.1 rfl (lv_room (Nat.le_of_ble_eq_true rfl)) dX2_pull_13 ⟨Nat.le_of_ble_eq_true rfl, Nat.le_of_ble_eq_true rfl⟩ hout hlocks (fun c_2 => by rw [show fX2_pull made mvs twi tna fa i nlo nhi nv nst nhs nls ngs x1 x2 = ((fX2_numberFrom i x2).1, (0 : Int32), nv, nhs, nls, ngs, mvs) from (by unfold fX2_pull; rw [if_neg c_2])]) (Nat.le_of_ble_eq_true rfl) (Nat.le_of_ble_eq_true rfl) (fun c_2 => ?_)
  refine W.eq (g2 := F0 m 16 ls [.long ((fX2_numberFrom i x2).2)]) rfl ?_
  refine lv_lstore (lv' := [(5, .long ((fX2_numberFrom i x2).2)), (4, .ref nd), (0, .ref ob), (1, .int x1), (2, .long x2)]) hx hb dX2_pull_16 hl (by decide) rfl (fun ls hl => ?_)
  refine lv_aload hx hb dX2_pull_18 (lv_at hl 1 rfl) ?_
  refine lv_aload hx hb dX2_pull_20 (lv_at hl 1 rfl) ?_
  refine lv_lload hx hb dX2_pull_22 (lv_at hl 0 rfl) ?_
  refine rc_V (b := nd) (r := .long (fX1_stepTowards i nlo nhi nv nst nhs nls ngs ((fX2_numberFrom i x2).2))) (As := [.long ((fX2_numberFrom i x2).2)]) (rest := [.ref nd]) ⟨hx, hb, hml, hown, hts⟩ (c_X1_stepTowards l D tys ad L g  nd i nlo nhi nv nst nhs nls ngs ((fX2_numberFrom i x2).2) hi hL_nd hg_nd) (cwV 1 hts gX2_pull_X1_stepTowards rfl rfl rfl hd_X1_stepTowards ⟨Nat.le_of_ble_eq_true rfl, Nat.le_of_ble_eq_true rfl⟩) (pg_recv hK hP hL_nd hg_nd rfl) (fun U hU hvm => WM hP hK hD hKC0 hTC hS hU hvm) hXN rfl hl.1 rfl (lv_room (Nat.le_of_ble_eq_true rfl)) dX2_pull_24 ⟨Nat.le_of_ble_eq_true rfl, Nat.le_of_ble_eq_true rfl⟩ ?_
  refine mc_V (b := nd) (As := [.long (fX1_stepTowards i nlo nhi nv nst nhs nls ngs ((fX2_numberFrom i x2).2))]) (rest := []) ⟨hx, hb, hml, hown, hts⟩ (c_X1_moveTo l D tys ad L g  nd i nlo nhi nv nst nhs nls ngs (fX1_stepTowards i nlo nhi nv nst nhs nls ngs ((fX2_numberFrom i x2).2)) hi hL_nd hg_nd) (cwV 1 hts gX2_pull_X1_moveTo rfl rfl rfl hd_X1_moveTo ⟨Nat.le_of_ble_eq_true rfl, Nat.le_of_ble_eq_true rfl⟩) (pg_recv hK hP hL_nd hg_nd rfl) (fun U hU hvm => WM hP hK hD hKC0 hTC hS hU hvm) hXN hS (fun _ h => h) rfl hl.1 rfl (lv_room (Nat.le_of_ble_eq_true rfl)) dX2_pull_27 ⟨Nat.le_of_ble_eq_true rfl, Nat.le_of_ble_eq_true rfl⟩ (fun g1 H locs hp9 hP hD hS => ?_)
  refine W.eq (g2 := F0 m 30 ls []) rfl ?_
  obtain ⟨hn9_nd, hr9⟩ := hp9
  have hg_ob : g1 ob = .inr (2, [.ref arr, .int made, .int mvs, .long twi, .int tna]) := (hr9 ob ne_ob_nd).trans hg_ob
  have hg_arr : g1 arr = .inl (cyN, 8, .inr (.inr (.inr (.inr fa)))) := (hr9 arr ne_arr_nd).trans hg_arr
  have hg_nd : g1 nd = .inr (1, [.ref (ad i), .long nlo, .long nhi, .long ((fX1_moveTo i nlo nhi nv nst nhs nls ngs (fX1_stepTowards i nlo nhi nv nst nhs nls ngs ((fX2_numberFrom i x2).2))).1), .long nst, .long ((fX1_moveTo i nlo nhi nv nst nhs nls ngs (fX1_stepTowards i nlo nhi nv nst nhs nls ngs ((fX2_numberFrom i x2).2))).2.1), .long ((fX1_moveTo i nlo nhi nv nst nhs nls ngs (fX1_stepTowards i nlo nhi nv nst nhs nls ngs ((fX2_numberFrom i x2).2))).2.2.1), .long ((fX1_moveTo i nlo nhi nv nst nhs nls ngs (fX1_stepTowards i nlo nhi nv nst nhs nls ngs ((fX2_numberFrom i x2).2))).2.2.2)]) := hn9_nd
  have hrs : ∀ q : Nat, q ≠ nd → q ≠ ob → g1 q = g q := fun q h_nd h_ob => (hr9 q h_nd).trans (hrs q h_nd h_ob)
  refine lv_aload_n hx hb dX2_pull_30 rfl (lv_at hl 2 rfl) ?_
  refine lv_dup hx hb dX2_pull_31 rfl ?_
  refine pg_get hx hb hts hin_X2_X2_pull hown hK hP hL_ob hg_ob rfl 2 (by decide) (hts (.fieldLink RX2 62 "NeedleBoard" "moves" "I") (by decide +kernel)) rfl dX2_pull_32 ?_
  refine lv_iconst (v := 1) hx hb dX2_pull_35 (by decide) ?_
  refine lv_iadd hx hb dX2_pull_36 ?_
  refine pg_put (ty := .int) hx hb hts hin_X2_X2_pull tyX2 tyX2_ok nmX2 hown hK hP hD hS hL_ob hg_ob rfl 2 (by decide) (hts (.fieldLink RX2 62 "NeedleBoard" "moves" "I") (by decide +kernel)) rfl (by decide +kernel) rfl rfl (Nat.le_of_ble_eq_true rfl) dX2_pull_37 (fun H locs hP hD hS => ?_)
  obtain ⟨g2, eg2⟩ : ∃ z : Nat → va_E, z = va_up g1 ob (.inr (2, [.ref arr, .int made, .int (mvs + (1 : Int32)), .long twi, .int tna])) := ⟨_, rfl⟩
  have hP : va_P D vwCl (va_pl L g2) H := by rw [eg2]; exact hP
  have hD : va_D (fun q => q ∈ L) (va_pl L g2) := by rw [eg2]; exact hD
  have hg_ob : g2 ob = .inr (2, [.ref arr, .int made, .int (mvs + (1 : Int32)), .long twi, .int tna]) := by rw [eg2]; exact va_up_self _ _ _
  have hg_arr : g2 arr = .inl (cyN, 8, .inr (.inr (.inr (.inr fa)))) := (congrFun eg2 arr).trans ((va_up_ne _ _ ne_arr_ob).trans hg_arr)
  have hg_nd : g2 nd = .inr (1, [.ref (ad i), .long nlo, .long nhi, .long ((fX1_moveTo i nlo nhi nv nst nhs nls ngs (fX1_stepTowards i nlo nhi nv nst nhs nls ngs ((fX2_numberFrom i x2).2))).1), .long nst, .long ((fX1_moveTo i nlo nhi nv nst nhs nls ngs (fX1_stepTowards i nlo nhi nv nst nhs nls ngs ((fX2_numberFrom i x2).2))).2.1), .long ((fX1_moveTo i nlo nhi nv nst nhs nls ngs (fX1_stepTowards i nlo nhi nv nst nhs nls ngs ((fX2_numberFrom i x2).2))).2.2.1), .long ((fX1_moveTo i nlo nhi nv nst nhs nls ngs (fX1_stepTowards i nlo nhi nv nst nhs nls ngs ((fX2_numberFrom i x2).2))).2.2.2)]) := (congrFun eg2 nd).trans ((va_up_ne _ _ ne_nd_ob).trans hg_nd)
  have hrs : ∀ q : Nat, q ≠ nd → q ≠ ob → g2 q = g q := fun q h_nd h_ob => (congrFun eg2 q).trans ((va_up_ne _ _ h_ob).trans (hrs q h_nd h_ob))
  refine lv_aload hx hb dX2_pull_40 (lv_at hl 1 rfl) ?_
  refine pg_get hx hb hts hin_X1_X2_pull hown hK hP hL_nd hg_nd rfl 0 (by decide) (hts (.fieldLink RX2 55 "NeedleBoard$Needle" "kind" "LNeedleBoard$Kind;") (by decide +kernel)) rfl dX2_pull_42 ?_
  refine lv_aload hx hb dX2_pull_45 (lv_at hl 1 rfl) ?_
  refine pg_get hx hb hts hin_X1_X2_pull hown hK hP hL_nd hg_nd rfl 3 (by decide) (hts (.fieldLink RX2 65 "NeedleBoard$Needle" "value" "J") (by decide +kernel)) rfl dX2_pull_47 ?_
  refine lv_lload hx hb dX2_pull_50 (lv_at hl 0 rfl) ?_
  refine pc_V (i := i) (As := [.long ((fX1_moveTo i nlo nhi nv nst nhs nls ngs (fX1_stepTowards i nlo nhi nv nst nhs nls ngs ((fX2_numberFrom i x2).2))).1), .long ((fX2_numberFrom i x2).2)]) (rest := []) (r := .int (fX0_areAlike i ((fX1_moveTo i nlo nhi nv nst nhs nls ngs (fX1_stepTowards i nlo nhi nv nst nhs nls ngs ((fX2_numberFrom i x2).2))).1) ((fX2_numberFrom i x2).2))) ⟨hx, hb, hml, hown, hts⟩ (c_X0_areAlike l ad i hi ((fX1_moveTo i nlo nhi nv nst nhs nls ngs (fX1_stepTowards i nlo nhi nv nst nhs nls ngs ((fX2_numberFrom i x2).2))).1) ((fX2_numberFrom i x2).2)) (cwV 2 hts gX2_pull_X0_areAlike rfl rfl rfl hd_X0_areAlike ⟨Nat.le_of_ble_eq_true rfl, Nat.le_of_ble_eq_true rfl⟩) hKC hS hi rfl hl.1 rfl (lv_room (Nat.le_of_ble_eq_true rfl)) dX2_pull_52 ⟨Nat.le_of_ble_eq_true rfl, Nat.le_of_ble_eq_true rfl⟩ ?_
  have hF : fX2_pull made mvs twi tna fa i nlo nhi nv nst nhs nls ngs x1 x2 = (0, fX0_areAlike i ((fX1_moveTo i nlo nhi nv nst nhs nls ngs (fX1_stepTowards i nlo nhi nv nst nhs nls ngs ((fX2_numberFrom i x2).2))).1) ((fX2_numberFrom i x2).2), (fX1_moveTo i nlo nhi nv nst nhs nls ngs (fX1_stepTowards i nlo nhi nv nst nhs nls ngs ((fX2_numberFrom i x2).2))).1, (fX1_moveTo i nlo nhi nv nst nhs nls ngs (fX1_stepTowards i nlo nhi nv nst nhs nls ngs ((fX2_numberFrom i x2).2))).2.1, (fX1_moveTo i nlo nhi nv nst nhs nls ngs (fX1_stepTowards i nlo nhi nv nst nhs nls ngs ((fX2_numberFrom i x2).2))).2.2.1, (fX1_moveTo i nlo nhi nv nst nhs nls ngs (fX1_stepTowards i nlo nhi nv nst nhs nls ngs ((fX2_numberFrom i x2).2))).2.2.2, mvs + (1 : Int32)) := (by unfold fX2_pull; rw [if_pos c_2])
  have hF0 : (fX2_pull made mvs twi tna fa i nlo nhi nv nst nhs nls ngs x1 x2).1 = 0 := by rw [hF]
  have hF1 : (fX2_pull made mvs twi tna fa i nlo nhi nv nst nhs nls ngs x1 x2).2.1 = fX0_areAlike i ((fX1_moveTo i nlo nhi nv nst nhs nls ngs (fX1_stepTowards i nlo nhi nv nst nhs nls ngs ((fX2_numberFrom i x2).2))).1) ((fX2_numberFrom i x2).2) := by rw [hF]
  have hF2 : (fX2_pull made mvs twi tna fa i nlo nhi nv nst nhs nls ngs x1 x2).2.2.1 = (fX1_moveTo i nlo nhi nv nst nhs nls ngs (fX1_stepTowards i nlo nhi nv nst nhs nls ngs ((fX2_numberFrom i x2).2))).1 := by rw [hF]
  have hF3 : (fX2_pull made mvs twi tna fa i nlo nhi nv nst nhs nls ngs x1 x2).2.2.2.1 = (fX1_moveTo i nlo nhi nv nst nhs nls ngs (fX1_stepTowards i nlo nhi nv nst nhs nls ngs ((fX2_numberFrom i x2).2))).2.1 := by rw [hF]
  have hF4 : (fX2_pull made mvs twi tna fa i nlo nhi nv nst nhs nls ngs x1 x2).2.2.2.2.1 = (fX1_moveTo i nlo nhi nv nst nhs nls ngs (fX1_stepTowards i nlo nhi nv nst nhs nls ngs ((fX2_numberFrom i x2).2))).2.2.1 := by rw [hF]
  have hF5 : (fX2_pull made mvs twi tna fa i nlo nhi nv nst nhs nls ngs x1 x2).2.2.2.2.2.1 = (fX1_moveTo i nlo nhi nv nst nhs nls ngs (fX1_stepTowards i nlo nhi nv nst nhs nls ngs ((fX2_numberFrom i x2).2))).2.2.2 := by rw [hF]
  have hF6 : (fX2_pull made mvs twi tna fa i nlo nhi nv nst nhs nls ngs x1 x2).2.2.2.2.2.2 = mvs + (1 : Int32) := by rw [hF]
  exact vx_ret (W.widen (k := 2) (n := 12) (Nat.le_of_ble_eq_true rfl) (Nat.le_of_ble_eq_true rfl) (W.zret hx hb hr (zn_of (bz_X0_areAlike _ _ _)) (fun t ht hW => ⟨hF0, congrArg (fun z => Outcome.returned (some (Value.int z))) hF1.symm, ⟨g2, WM hP hK hD hKC0 hTC hS ht hW.alike, by rw [hF2, hF3, hF4, hF5, hF6]; exact ⟨hg_nd, hg_ob, hrs⟩⟩, hS.F ht⟩) (fun q h => hS.2.2 q h) dX2_pull_55))
theorem hd_X2_rest : yX2_rest.cls = RX2 ∧ yX2_rest.cls ≠ "java/lang/invoke/MethodHandle" ∧ yX2_rest.cls ≠ "java/lang/invoke/VarHandle" ∧ (parseMethodDescriptor yX2_rest.desc).map (fun d => d.parameters.length) = some 2 := by decide +kernel
set_option maxHeartbeats 1000000 in
set_option maxRecDepth 100000 in
theorem c_X2_rest_no (l : Launch) (hfl : l.stackTraces = false) {cyN : ClassId} (D : va_G) (tys : List (ClassId × FieldType)) (ad : Nat → Nat) (L : List Nat) (g : Nat → va_E) (ob arr : Nat) (made : Int32) (mvs : Int32) (twi : Int64) (tna : Int32) (fa : Nat → Option Nat) (x1 : Int32) (x2 : Int32) (hL_ob : ob ∈ L) (hL_arr : arr ∈ L) (hg_ob : g ob = .inr (2, [.ref arr, .int made, .int mvs, .long twi, .int tna])) (hg_arr : g arr = .inl (cyN, 8, .inr (.inr (.inr (.inr fa))))) (htN : tys[2]? = some (cyN, .object RX1)) (hab : ¬ vp_in x1 8 ∨ fa x1.toNatClampNeg = none) : vx_Met l yX2_rest wsX2_rest ({ frames := 7, cells := 1, slots := 6, locals := 104 }) (PW D tys ad L g [.ref ob, .int x1, .int x2]) (QR (1) none) (XW D tys ad L g (1)) 1 6 (fun _ => False) := by
  refine vx_ofW (cc := cX2_rest) (maxL := 4) (ret := (some .long)) (by decide) rfl ?_
  intro p e s m args below meth c s₁ B hml hout hv
  obtain ⟨rfl, ⟨hP, hK, hD0, hKC0, hTC⟩, hXN⟩ := hv
  have hP0 := hP
  have hD : va_D (fun q => q ∈ L) (va_pl L g) := we_D (fun _ h => h) hD0
  have hKC : KC ad (fun q => q ∈ L) s s.heap := hKC0.narrow (fun _ h => Or.inl h)
  have hS : va_S (fun q => q ∈ L) s.heap s.heap [] := va_S.rf
  have hx := B.exec
  have hb := B.bytes
  have hr := B.returns
  have hts := atoms_spec (ws := wsX2_rest) B.pre
  have hown : s.vm.findClass RX2 = some m.cls := findClass_of_methodNamed B.named
  have hlocks := B.notSynchronized
  have hl := lv_entry ([.ref ob, .int x1, .int x2]) (n := 4) (Nat.le_of_ble_eq_true rfl)
  rw [lg_entry_eq]
  generalize (lg_sl ([.ref ob, .int x1, .int x2]) ++ List.replicate (4 - (lg_sl ([.ref ob, .int x1, .int x2])).length) Slot.unset).toArray = ls at hl ⊢
  have hl : lv_has ls 4 [(0, .ref ob), (1, .int x1), (2, .int x2)] := hl
  refine lv_aload_n hx hb dX2_rest_0 rfl (lv_at hl 0 rfl) ?_
  refine lv_iload_n hx hb dX2_rest_1 rfl (lv_at hl 1 rfl) ?_
  exact xp_V (b := ob) (As := [.int x1]) (rest := []) ⟨hx, hb, hml, hown, hts⟩ (c_X2_needleAt_no l hfl D tys ad L g  ob arr made mvs twi tna fa x1 hL_ob hL_arr hg_ob hg_arr htN hab) (cwV 1 hts gX2_rest_X2_needleAt rfl rfl rfl hd_X2_needleAt ⟨Nat.le_of_ble_eq_true rfl, Nat.le_of_ble_eq_true rfl⟩) (pg_recv hK hP hL_ob hg_ob rfl) (fun U hU hvm => WM hP hK hD hKC0 hTC hS hU hvm) hXN rfl hl.1 rfl (lv_room (Nat.le_of_ble_eq_true rfl)) dX2_rest_2 ⟨Nat.le_of_ble_eq_true rfl, Nat.le_of_ble_eq_true rfl⟩ hout hlocks (fun _ => rfl) (Nat.le_of_ble_eq_true rfl) (Nat.le_of_ble_eq_true rfl) (fun h9 => absurd h9 (by decide))
def fX2_rest (made : Int32) (mvs : Int32) (twi : Int64) (tna : Int32) (fa : Nat → Option Nat) (i : Nat) (nlo : Int64) (nhi : Int64) (nv : Int64) (nst : Int64) (nhs : Int64) (nls : Int64) (ngs : Int64) (x1 : Int32) (x2 : Int32) : Nat × Int64 × Int64 × Int64 × Int64 × Int64 × Int32 :=
  if x2 < 0 then
    (2, (0 : Int64), nv, nhs, nls, ngs, mvs)
  else
    if x2 ≤ (2 : Int32) then
      (0, (fX1_moveTo i nlo nhi nv nst nhs nls ngs (fX0_wholeOf i nv x2)).1, (fX1_moveTo i nlo nhi nv nst nhs nls ngs (fX0_wholeOf i nv x2)).1, (fX1_moveTo i nlo nhi nv nst nhs nls ngs (fX0_wholeOf i nv x2)).2.1, (fX1_moveTo i nlo nhi nv nst nhs nls ngs (fX0_wholeOf i nv x2)).2.2.1, (fX1_moveTo i nlo nhi nv nst nhs nls ngs (fX0_wholeOf i nv x2)).2.2.2, mvs + (1 : Int32))
    else
      (2, (0 : Int64), nv, nhs, nls, ngs, mvs)
theorem hin_X1_X2_rest : ∀ w ∈ wsX10, w ∈ wsX2_rest := by decide +kernel
theorem hin_X2_X2_rest : ∀ w ∈ wsX20, w ∈ wsX2_rest := by decide +kernel
theorem hgA_X2_rest : ∀ w ∈ (vx_atS RX2 36 "java/lang/IllegalArgumentException" ["java/lang/RuntimeException", "java/lang/Exception"]).filter goodWord, w ∈ wsX2_rest := by
  intro w h
  simp only [wsX2_rest, List.mem_cons, List.mem_append]
  simp only [h, or_true, true_or]
set_option maxHeartbeats 1000000 in
set_option maxRecDepth 100000 in
theorem c_X2_rest (l : Launch) (hfl : l.stackTraces = false) {cyN : ClassId} (D : va_G) (tys : List (ClassId × FieldType)) (ad : Nat → Nat) (L : List Nat) (g : Nat → va_E) (ob arr nd : Nat) (made : Int32) (mvs : Int32) (twi : Int64) (tna : Int32) (fa : Nat → Option Nat) (i : Nat) (nlo : Int64) (nhi : Int64) (nv : Int64) (nst : Int64) (nhs : Int64) (nls : Int64) (ngs : Int64) (x1 : Int32) (x2 : Int32) (hi : i < 2) (hL_ob : ob ∈ L) (hL_arr : arr ∈ L) (hL_nd : nd ∈ L) (hg_ob : g ob = .inr (2, [.ref arr, .int made, .int mvs, .long twi, .int tna])) (hg_arr : g arr = .inl (cyN, 8, .inr (.inr (.inr (.inr fa))))) (hg_nd : g nd = .inr (1, [.ref (ad i), .long nlo, .long nhi, .long nv, .long nst, .long nhs, .long nls, .long ngs])) (ne_ob_nd : ob ≠ nd) (ne_arr_ob : arr ≠ ob) (ne_arr_nd : arr ≠ nd) (ne_nd_ob : nd ≠ ob) (htN : tys[2]? = some (cyN, .object RX1)) (hia : vp_in x1 8) (hfa : fa x1.toNatClampNeg = some nd) : vx_Met l yX2_rest wsX2_rest ({ frames := 7, cells := 2, slots := 12, locals := 114 }) (PW D tys ad L g [.ref ob, .int x1, .int x2]) (QEc D tys ad L ((fX2_rest made mvs twi tna fa i nlo nhi nv nst nhs nls ngs x1 x2).1) (some (.long ((fX2_rest made mvs twi tna fa i nlo nhi nv nst nhs nls ngs x1 x2).2.1))) (fun g1 => g1 nd = .inr (1, [.ref (ad i), .long nlo, .long nhi, .long ((fX2_rest made mvs twi tna fa i nlo nhi nv nst nhs nls ngs x1 x2).2.2.1), .long nst, .long ((fX2_rest made mvs twi tna fa i nlo nhi nv nst nhs nls ngs x1 x2).2.2.2.1), .long ((fX2_rest made mvs twi tna fa i nlo nhi nv nst nhs nls ngs x1 x2).2.2.2.2.1), .long ((fX2_rest made mvs twi tna fa i nlo nhi nv nst nhs nls ngs x1 x2).2.2.2.2.2.1)]) ∧ g1 ob = .inr (2, [.ref arr, .int made, .int ((fX2_rest made mvs twi tna fa i nlo nhi nv nst nhs nls ngs x1 x2).2.2.2.2.2.2), .long twi, .int tna]) ∧ ∀ q : Nat, q ≠ nd → q ≠ ob → g1 q = g q)) (XW D tys ad L g ((fX2_rest made mvs twi tna fa i nlo nhi nv nst nhs nls ngs x1 x2).1)) 2 12 (fun q => q ∈ L) := by
  refine vx_ofW (cc := cX2_rest) (maxL := 4) (ret := (some .long)) (by decide) rfl ?_
  intro p e s m args below meth c s₁ B hml hout hv
  obtain ⟨rfl, ⟨hP, hK, hD0, hKC0, hTC⟩, hXN⟩ := hv
  have hP0 := hP
  have hD : va_D (fun q => q ∈ L) (va_pl L g) := we_D (fun _ h => h) hD0
  have hKC : KC ad (fun q => q ∈ L) s s.heap := hKC0.narrow (fun _ h => Or.inl h)
  have hS : va_S (fun q => q ∈ L) s.heap s.heap [] := va_S.rf
  have hx := B.exec
  have hb := B.bytes
  have hr := B.returns
  have hts := atoms_spec (ws := wsX2_rest) B.pre
  have hown : s.vm.findClass RX2 = some m.cls := findClass_of_methodNamed B.named
  have hlocks := B.notSynchronized
  have hrs : ∀ q : Nat, q ≠ nd → q ≠ ob → g q = g q := fun q _ _ => rfl
  have hl := lv_entry ([.ref ob, .int x1, .int x2]) (n := 4) (Nat.le_of_ble_eq_true rfl)
  rw [lg_entry_eq]
  generalize (lg_sl ([.ref ob, .int x1, .int x2]) ++ List.replicate (4 - (lg_sl ([.ref ob, .int x1, .int x2])).length) Slot.unset).toArray = ls at hl ⊢
  have hl : lv_has ls 4 [(0, .ref ob), (1, .int x1), (2, .int x2)] := hl
  refine lv_aload_n hx hb dX2_rest_0 rfl (lv_at hl 0 rfl) ?_
  refine lv_iload_n hx hb dX2_rest_1 rfl (lv_at hl 1 rfl) ?_
  refine xp_V (b := ob) (As := [.int x1]) (rest := []) ⟨hx, hb, hml, hown, hts⟩ (c_X2_needleAt_ok l hfl D tys ad L g  ob arr nd made mvs twi tna fa x1 hL_ob hL_arr hg_ob hg_arr htN hia hfa) (cwV 1 hts gX2_rest_X2_needleAt rfl rfl rfl hd_X2_needleAt ⟨Nat.le_of_ble_eq_true rfl, Nat.le_of_ble_eq_true rfl⟩) (pg_recv hK hP hL_ob hg_ob rfl) (fun U hU hvm => WM hP hK hD hKC0 hTC hS hU hvm) hXN rfl hl.1 rfl (lv_room (Nat.le_of_ble_eq_true rfl)) dX2_rest_2 ⟨Nat.le_of_ble_eq_true rfl, Nat.le_of_ble_eq_true rfl⟩ hout hlocks (fun h9 => absurd rfl h9) (Nat.le_of_ble_eq_true rfl) (Nat.le_of_ble_eq_true rfl) (fun _ => ?_)
  refine W.eq (g2 := F0 m 5 ls [.ref nd]) rfl ?_
  refine lv_astore_n (lv' := [(3, .ref nd), (0, .ref ob), (1, .int x1), (2, .int x2)]) hx hb dX2_rest_5 rfl hl (by decide) rfl (fun ls hl => ?_)
  refine lv_iload_n hx hb dX2_rest_6 rfl (lv_at hl 3 rfl) ?_
  refine lv_if_lt (tgt := 15) hx hb dX2_rest_7 (by decide) (fun c_2 => ?_) (fun c_2 => ?_)
  · have hF : fX2_rest made mvs twi tna fa i nlo nhi nv nst nhs nls ngs x1 x2 = (2, (0 : Int64), nv, nhs, nls, ngs, mvs) := (by unfold fX2_rest; rw [if_pos c_2])
    exact th_A (is := 91) (text := "there is no such way to rest") hx hb hfl hown (hts (.classLink RX2 32 "java/lang/IllegalArgumentException") (by decide +kernel)) (hts (.initialized "java/lang/IllegalArgumentException") (by decide +kernel)) (fun w hw => hts w (hgA_X2_rest w hw)) hXN (by decide +kernel) hP0 hK hD0 hKC0 hTC (hl.1.trans hml.symm) dX2_rest_15 dX2_rest_18 dX2_rest_19 dX2_rest_21 dX2_rest_24 hout (Nat.le_of_ble_eq_true rfl) (Nat.le_of_ble_eq_true rfl) (Nat.le_of_ble_eq_true rfl) (Nat.le_of_ble_eq_true rfl) hlocks (by rw [hF]) (Nat.le_of_ble_eq_true rfl) (Nat.le_of_ble_eq_true rfl)
  · refine lv_iload_n hx hb dX2_rest_10 rfl (lv_at hl 3 rfl) ?_
    refine lv_iconst (v := 2) hx hb dX2_rest_11 (by decide) ?_
    refine lv_icmp_le (tgt := 25) hx hb dX2_rest_12 (by decide) (fun c_3 => ?_) (fun c_3 => ?_)
    · refine lv_aload_n hx hb dX2_rest_25 rfl (lv_at hl 0 rfl) ?_
      refine lv_aload_n hx hb dX2_rest_26 rfl (lv_at hl 0 rfl) ?_
      refine pg_get hx hb hts hin_X1_X2_rest hown hK hP hL_nd hg_nd rfl 0 (by decide) (hts (.fieldLink RX2 55 "NeedleBoard$Needle" "kind" "LNeedleBoard$Kind;") (by decide +kernel)) rfl dX2_rest_27 ?_
      refine lv_aload_n hx hb dX2_rest_30 rfl (lv_at hl 0 rfl) ?_
      refine pg_get hx hb hts hin_X1_X2_rest hown hK hP hL_nd hg_nd rfl 3 (by decide) (hts (.fieldLink RX2 65 "NeedleBoard$Needle" "value" "J") (by decide +kernel)) rfl dX2_rest_31 ?_
      refine lv_iload_n hx hb dX2_rest_34 rfl (lv_at hl 3 rfl) ?_
      refine pc_V (i := i) (As := [.long nv, .int x2]) (rest := [.ref nd]) (r := .long (fX0_wholeOf i nv x2)) ⟨hx, hb, hml, hown, hts⟩ (c_X0_wholeOf l ad i hi nv x2) (cwV 2 hts gX2_rest_X0_wholeOf rfl rfl rfl hd_X0_wholeOf ⟨Nat.le_of_ble_eq_true rfl, Nat.le_of_ble_eq_true rfl⟩) hKC hS hi rfl hl.1 rfl (lv_room (Nat.le_of_ble_eq_true rfl)) dX2_rest_35 ⟨Nat.le_of_ble_eq_true rfl, Nat.le_of_ble_eq_true rfl⟩ ?_
      refine mc_V (b := nd) (As := [.long (fX0_wholeOf i nv x2)]) (rest := []) ⟨hx, hb, hml, hown, hts⟩ (c_X1_moveTo l D tys ad L g  nd i nlo nhi nv nst nhs nls ngs (fX0_wholeOf i nv x2) hi hL_nd hg_nd) (cwV 1 hts gX2_rest_X1_moveTo rfl rfl rfl hd_X1_moveTo ⟨Nat.le_of_ble_eq_true rfl, Nat.le_of_ble_eq_true rfl⟩) (pg_recv hK hP hL_nd hg_nd rfl) (fun U hU hvm => WM hP hK hD hKC0 hTC hS hU hvm) hXN hS (fun _ h => h) rfl hl.1 rfl (lv_room (Nat.le_of_ble_eq_true rfl)) dX2_rest_38 ⟨Nat.le_of_ble_eq_true rfl, Nat.le_of_ble_eq_true rfl⟩ (fun g1 H locs hp9 hP hD hS => ?_)
      refine W.eq (g2 := F0 m 41 ls []) rfl ?_
      obtain ⟨hn9_nd, hr9⟩ := hp9
      have hg_ob : g1 ob = .inr (2, [.ref arr, .int made, .int mvs, .long twi, .int tna]) := (hr9 ob ne_ob_nd).trans hg_ob
      have hg_arr : g1 arr = .inl (cyN, 8, .inr (.inr (.inr (.inr fa)))) := (hr9 arr ne_arr_nd).trans hg_arr
      have hg_nd : g1 nd = .inr (1, [.ref (ad i), .long nlo, .long nhi, .long ((fX1_moveTo i nlo nhi nv nst nhs nls ngs (fX0_wholeOf i nv x2)).1), .long nst, .long ((fX1_moveTo i nlo nhi nv nst nhs nls ngs (fX0_wholeOf i nv x2)).2.1), .long ((fX1_moveTo i nlo nhi nv nst nhs nls ngs (fX0_wholeOf i nv x2)).2.2.1), .long ((fX1_moveTo i nlo nhi nv nst nhs nls ngs (fX0_wholeOf i nv x2)).2.2.2)]) := hn9_nd
      have hrs : ∀ q : Nat, q ≠ nd → q ≠ ob → g1 q = g q := fun q h_nd h_ob => (hr9 q h_nd).trans (hrs q h_nd h_ob)
      refine lv_aload_n hx hb dX2_rest_41 rfl (lv_at hl 1 rfl) ?_
      refine lv_dup hx hb dX2_rest_42 rfl ?_
      refine pg_get hx hb hts hin_X2_X2_rest hown hK hP hL_ob hg_ob rfl 2 (by decide) (hts (.fieldLink RX2 62 "NeedleBoard" "moves" "I") (by decide +kernel)) rfl dX2_rest_43 ?_
      refine lv_iconst (v := 1) hx hb dX2_rest_46 (by decide) ?_
      refine lv_iadd hx hb dX2_rest_47 ?_
      refine pg_put (ty := .int) hx hb hts hin_X2_X2_rest tyX2 tyX2_ok nmX2 hown hK hP hD hS hL_ob hg_ob rfl 2 (by decide) (hts (.fieldLink RX2 62 "NeedleBoard" "moves" "I") (by decide +kernel)) rfl (by decide +kernel) rfl rfl (Nat.le_of_ble_eq_true rfl) dX2_rest_48 (fun H locs hP hD hS => ?_)
      obtain ⟨g2, eg2⟩ : ∃ z : Nat → va_E, z = va_up g1 ob (.inr (2, [.ref arr, .int made, .int (mvs + (1 : Int32)), .long twi, .int tna])) := ⟨_, rfl⟩
      have hP : va_P D vwCl (va_pl L g2) H := by rw [eg2]; exact hP
      have hD : va_D (fun q => q ∈ L) (va_pl L g2) := by rw [eg2]; exact hD
      have hg_ob : g2 ob = .inr (2, [.ref arr, .int made, .int (mvs + (1 : Int32)), .long twi, .int tna]) := by rw [eg2]; exact va_up_self _ _ _
      have hg_arr : g2 arr = .inl (cyN, 8, .inr (.inr (.inr (.inr fa)))) := (congrFun eg2 arr).trans ((va_up_ne _ _ ne_arr_ob).trans hg_arr)
      have hg_nd : g2 nd = .inr (1, [.ref (ad i), .long nlo, .long nhi, .long ((fX1_moveTo i nlo nhi nv nst nhs nls ngs (fX0_wholeOf i nv x2)).1), .long nst, .long ((fX1_moveTo i nlo nhi nv nst nhs nls ngs (fX0_wholeOf i nv x2)).2.1), .long ((fX1_moveTo i nlo nhi nv nst nhs nls ngs (fX0_wholeOf i nv x2)).2.2.1), .long ((fX1_moveTo i nlo nhi nv nst nhs nls ngs (fX0_wholeOf i nv x2)).2.2.2)]) := (congrFun eg2 nd).trans ((va_up_ne _ _ ne_nd_ob).trans hg_nd)
      have hrs : ∀ q : Nat, q ≠ nd → q ≠ ob → g2 q = g q := fun q h_nd h_ob => (congrFun eg2 q).trans ((va_up_ne _ _ h_ob).trans (hrs q h_nd h_ob))
      refine lv_aload_n hx hb dX2_rest_51 rfl (lv_at hl 0 rfl) ?_
      refine pg_get hx hb hts hin_X1_X2_rest hown hK hP hL_nd hg_nd rfl 3 (by decide) (hts (.fieldLink RX2 65 "NeedleBoard$Needle" "value" "J") (by decide +kernel)) rfl dX2_rest_52 ?_
      have hF : fX2_rest made mvs twi tna fa i nlo nhi nv nst nhs nls ngs x1 x2 = (0, (fX1_moveTo i nlo nhi nv nst nhs nls ngs (fX0_wholeOf i nv x2)).1, (fX1_moveTo i nlo nhi nv nst nhs nls ngs (fX0_wholeOf i nv x2)).1, (fX1_moveTo i nlo nhi nv nst nhs nls ngs (fX0_wholeOf i nv x2)).2.1, (fX1_moveTo i nlo nhi nv nst nhs nls ngs (fX0_wholeOf i nv x2)).2.2.1, (fX1_moveTo i nlo nhi nv nst nhs nls ngs (fX0_wholeOf i nv x2)).2.2.2, mvs + (1 : Int32)) := (by unfold fX2_rest; rw [if_neg c_2, if_pos c_3])
      have hF0 : (fX2_rest made mvs twi tna fa i nlo nhi nv nst nhs nls ngs x1 x2).1 = 0 := by rw [hF]
      have hF1 : (fX2_rest made mvs twi tna fa i nlo nhi nv nst nhs nls ngs x1 x2).2.1 = (fX1_moveTo i nlo nhi nv nst nhs nls ngs (fX0_wholeOf i nv x2)).1 := by rw [hF]
      have hF2 : (fX2_rest made mvs twi tna fa i nlo nhi nv nst nhs nls ngs x1 x2).2.2.1 = (fX1_moveTo i nlo nhi nv nst nhs nls ngs (fX0_wholeOf i nv x2)).1 := by rw [hF]
      have hF3 : (fX2_rest made mvs twi tna fa i nlo nhi nv nst nhs nls ngs x1 x2).2.2.2.1 = (fX1_moveTo i nlo nhi nv nst nhs nls ngs (fX0_wholeOf i nv x2)).2.1 := by rw [hF]
      have hF4 : (fX2_rest made mvs twi tna fa i nlo nhi nv nst nhs nls ngs x1 x2).2.2.2.2.1 = (fX1_moveTo i nlo nhi nv nst nhs nls ngs (fX0_wholeOf i nv x2)).2.2.1 := by rw [hF]
      have hF5 : (fX2_rest made mvs twi tna fa i nlo nhi nv nst nhs nls ngs x1 x2).2.2.2.2.2.1 = (fX1_moveTo i nlo nhi nv nst nhs nls ngs (fX0_wholeOf i nv x2)).2.2.2 := by rw [hF]
      have hF6 : (fX2_rest made mvs twi tna fa i nlo nhi nv nst nhs nls ngs x1 x2).2.2.2.2.2.2 = mvs + (1 : Int32) := by rw [hF]
      exact vx_ret (W.widen (k := 2) (n := 12) (Nat.le_of_ble_eq_true rfl) (Nat.le_of_ble_eq_true rfl) (W.lret hx hb hr (fun t ht hW => ⟨hF0, congrArg (fun z => Outcome.returned (some (Value.long z))) hF1.symm, ⟨g2, WM hP hK hD hKC0 hTC hS ht hW.alike, by rw [hF2, hF3, hF4, hF5, hF6]; exact ⟨hg_nd, hg_ob, hrs⟩⟩, hS.F ht⟩) (fun q h => hS.2.2 q h) dX2_rest_55))
    · have hF : fX2_rest made mvs twi tna fa i nlo nhi nv nst nhs nls ngs x1 x2 = (2, (0 : Int64), nv, nhs, nls, ngs, mvs) := (by unfold fX2_rest; rw [if_neg c_2, if_neg c_3])
      exact th_A (is := 91) (text := "there is no such way to rest") hx hb hfl hown (hts (.classLink RX2 32 "java/lang/IllegalArgumentException") (by decide +kernel)) (hts (.initialized "java/lang/IllegalArgumentException") (by decide +kernel)) (fun w hw => hts w (hgA_X2_rest w hw)) hXN (by decide +kernel) hP0 hK hD0 hKC0 hTC (hl.1.trans hml.symm) dX2_rest_15 dX2_rest_18 dX2_rest_19 dX2_rest_21 dX2_rest_24 hout (Nat.le_of_ble_eq_true rfl) (Nat.le_of_ble_eq_true rfl) (Nat.le_of_ble_eq_true rfl) (Nat.le_of_ble_eq_true rfl) hlocks (by rw [hF]) (Nat.le_of_ble_eq_true rfl) (Nat.le_of_ble_eq_true rfl)
theorem hd_X2_read : yX2_read.cls = RX2 ∧ yX2_read.cls ≠ "java/lang/invoke/MethodHandle" ∧ yX2_read.cls ≠ "java/lang/invoke/VarHandle" ∧ (parseMethodDescriptor yX2_read.desc).map (fun d => d.parameters.length) = some 2 := by decide +kernel
set_option maxHeartbeats 1000000 in
set_option maxRecDepth 100000 in
theorem c_X2_read_no (l : Launch) (hfl : l.stackTraces = false) {cyN : ClassId} (D : va_G) (tys : List (ClassId × FieldType)) (ad : Nat → Nat) (L : List Nat) (g : Nat → va_E) (ob arr : Nat) (made : Int32) (mvs : Int32) (twi : Int64) (tna : Int32) (fa : Nat → Option Nat) (x1 : Int32) (x2 : Int32) (hL_ob : ob ∈ L) (hL_arr : arr ∈ L) (hg_ob : g ob = .inr (2, [.ref arr, .int made, .int mvs, .long twi, .int tna])) (hg_arr : g arr = .inl (cyN, 8, .inr (.inr (.inr (.inr fa))))) (htN : tys[2]? = some (cyN, .object RX1)) (hab : ¬ vp_in x1 8 ∨ fa x1.toNatClampNeg = none) : vx_Met l yX2_read wsX2_read ({ frames := 7, cells := 1, slots := 6, locals := 104 }) (PW D tys ad L g [.ref ob, .int x1, .int x2]) (QR (1) none) (XW D tys ad L g (1)) 1 6 (fun _ => False) := by
  refine vx_ofW (cc := cX2_read) (maxL := 4) (ret := (some .long)) (by decide) rfl ?_
  intro p e s m args below meth c s₁ B hml hout hv
  obtain ⟨rfl, ⟨hP, hK, hD0, hKC0, hTC⟩, hXN⟩ := hv
  have hP0 := hP
  have hD : va_D (fun q => q ∈ L) (va_pl L g) := we_D (fun _ h => h) hD0
  have hKC : KC ad (fun q => q ∈ L) s s.heap := hKC0.narrow (fun _ h => Or.inl h)
  have hS : va_S (fun q => q ∈ L) s.heap s.heap [] := va_S.rf
  have hx := B.exec
  have hb := B.bytes
  have hr := B.returns
  have hts := atoms_spec (ws := wsX2_read) B.pre
  have hown : s.vm.findClass RX2 = some m.cls := findClass_of_methodNamed B.named
  have hlocks := B.notSynchronized
  have hl := lv_entry ([.ref ob, .int x1, .int x2]) (n := 4) (Nat.le_of_ble_eq_true rfl)
  rw [lg_entry_eq]
  generalize (lg_sl ([.ref ob, .int x1, .int x2]) ++ List.replicate (4 - (lg_sl ([.ref ob, .int x1, .int x2])).length) Slot.unset).toArray = ls at hl ⊢
  have hl : lv_has ls 4 [(0, .ref ob), (1, .int x1), (2, .int x2)] := hl
  refine lv_aload_n hx hb dX2_read_0 rfl (lv_at hl 0 rfl) ?_
  refine lv_iload_n hx hb dX2_read_1 rfl (lv_at hl 1 rfl) ?_
  exact xp_V (b := ob) (As := [.int x1]) (rest := []) ⟨hx, hb, hml, hown, hts⟩ (c_X2_needleAt_no l hfl D tys ad L g  ob arr made mvs twi tna fa x1 hL_ob hL_arr hg_ob hg_arr htN hab) (cwV 1 hts gX2_read_X2_needleAt rfl rfl rfl hd_X2_needleAt ⟨Nat.le_of_ble_eq_true rfl, Nat.le_of_ble_eq_true rfl⟩) (pg_recv hK hP hL_ob hg_ob rfl) (fun U hU hvm => WM hP hK hD hKC0 hTC hS hU hvm) hXN rfl hl.1 rfl (lv_room (Nat.le_of_ble_eq_true rfl)) dX2_read_2 ⟨Nat.le_of_ble_eq_true rfl, Nat.le_of_ble_eq_true rfl⟩ hout hlocks (fun _ => rfl) (Nat.le_of_ble_eq_true rfl) (Nat.le_of_ble_eq_true rfl) (fun h9 => absurd h9 (by decide))
def fX2_read (made : Int32) (mvs : Int32) (twi : Int64) (tna : Int32) (fa : Nat → Option Nat) (i : Nat) (nlo : Int64) (nhi : Int64) (nv : Int64) (nst : Int64) (nhs : Int64) (nls : Int64) (ngs : Int64) (x1 : Int32) (x2 : Int32) : Nat × Int64 :=
  if x2 = 0 then
    (0, nv)
  else
    if x2 = 1 then
      (0, nlo)
    else
      if x2 = 2 then
        (0, nhi)
      else
        if x2 = 3 then
          (0, nhs)
        else
          if x2 = 4 then
            (0, nls)
          else
            if x2 = 5 then
              (0, ngs)
            else
              if x2 = 6 then
                (0, nst)
              else
                if x2 = 7 then
                  (0, fX0_sizeOf i nv)
                else
                  if x2 = 8 then
                    (0, fX0_unitOf i nv)
                  else
                    (2, (0 : Int64))
theorem hin_X1_X2_read : ∀ w ∈ wsX10, w ∈ wsX2_read := by decide +kernel
theorem hgA_X2_read : ∀ w ∈ (vx_atS RX2 36 "java/lang/IllegalArgumentException" ["java/lang/RuntimeException", "java/lang/Exception"]).filter goodWord, w ∈ wsX2_read := by
  intro w h
  simp only [wsX2_read, List.mem_cons, List.mem_append]
  simp only [h, or_true, true_or]
set_option maxHeartbeats 1000000 in
set_option maxRecDepth 100000 in
theorem c_X2_read (l : Launch) (hfl : l.stackTraces = false) {cyN : ClassId} (D : va_G) (tys : List (ClassId × FieldType)) (ad : Nat → Nat) (L : List Nat) (g : Nat → va_E) (ob arr nd : Nat) (made : Int32) (mvs : Int32) (twi : Int64) (tna : Int32) (fa : Nat → Option Nat) (i : Nat) (nlo : Int64) (nhi : Int64) (nv : Int64) (nst : Int64) (nhs : Int64) (nls : Int64) (ngs : Int64) (x1 : Int32) (x2 : Int32) (hi : i < 2) (hL_ob : ob ∈ L) (hL_arr : arr ∈ L) (hL_nd : nd ∈ L) (hg_ob : g ob = .inr (2, [.ref arr, .int made, .int mvs, .long twi, .int tna])) (hg_arr : g arr = .inl (cyN, 8, .inr (.inr (.inr (.inr fa))))) (hg_nd : g nd = .inr (1, [.ref (ad i), .long nlo, .long nhi, .long nv, .long nst, .long nhs, .long nls, .long ngs])) (htN : tys[2]? = some (cyN, .object RX1)) (hia : vp_in x1 8) (hfa : fa x1.toNatClampNeg = some nd) : vx_Met l yX2_read wsX2_read ({ frames := 7, cells := 2, slots := 12, locals := 104 }) (PW D tys ad L g [.ref ob, .int x1, .int x2]) (QR ((fX2_read made mvs twi tna fa i nlo nhi nv nst nhs nls ngs x1 x2).1) (some (.long ((fX2_read made mvs twi tna fa i nlo nhi nv nst nhs nls ngs x1 x2).2)))) (XW D tys ad L g ((fX2_read made mvs twi tna fa i nlo nhi nv nst nhs nls ngs x1 x2).1)) 2 12 (fun _ => False) := by
  refine vx_ofW (cc := cX2_read) (maxL := 4) (ret := (some .long)) (by decide) rfl ?_
  intro p e s m args below meth c s₁ B hml hout hv
  obtain ⟨rfl, ⟨hP, hK, hD0, hKC0, hTC⟩, hXN⟩ := hv
  have hP0 := hP
  have hD : va_D (fun q => q ∈ L) (va_pl L g) := we_D (fun _ h => h) hD0
  have hKC : KC ad (fun q => q ∈ L) s s.heap := hKC0.narrow (fun _ h => Or.inl h)
  have hS : va_S (fun q => q ∈ L) s.heap s.heap [] := va_S.rf
  have hx := B.exec
  have hb := B.bytes
  have hr := B.returns
  have hts := atoms_spec (ws := wsX2_read) B.pre
  have hown : s.vm.findClass RX2 = some m.cls := findClass_of_methodNamed B.named
  have hlocks := B.notSynchronized
  have hl := lv_entry ([.ref ob, .int x1, .int x2]) (n := 4) (Nat.le_of_ble_eq_true rfl)
  rw [lg_entry_eq]
  generalize (lg_sl ([.ref ob, .int x1, .int x2]) ++ List.replicate (4 - (lg_sl ([.ref ob, .int x1, .int x2])).length) Slot.unset).toArray = ls at hl ⊢
  have hl : lv_has ls 4 [(0, .ref ob), (1, .int x1), (2, .int x2)] := hl
  refine lv_aload_n hx hb dX2_read_0 rfl (lv_at hl 0 rfl) ?_
  refine lv_iload_n hx hb dX2_read_1 rfl (lv_at hl 1 rfl) ?_
  refine xp_V (b := ob) (As := [.int x1]) (rest := []) ⟨hx, hb, hml, hown, hts⟩ (c_X2_needleAt_ok l hfl D tys ad L g  ob arr nd made mvs twi tna fa x1 hL_ob hL_arr hg_ob hg_arr htN hia hfa) (cwV 1 hts gX2_read_X2_needleAt rfl rfl rfl hd_X2_needleAt ⟨Nat.le_of_ble_eq_true rfl, Nat.le_of_ble_eq_true rfl⟩) (pg_recv hK hP hL_ob hg_ob rfl) (fun U hU hvm => WM hP hK hD hKC0 hTC hS hU hvm) hXN rfl hl.1 rfl (lv_room (Nat.le_of_ble_eq_true rfl)) dX2_read_2 ⟨Nat.le_of_ble_eq_true rfl, Nat.le_of_ble_eq_true rfl⟩ hout hlocks (fun h9 => absurd rfl h9) (Nat.le_of_ble_eq_true rfl) (Nat.le_of_ble_eq_true rfl) (fun _ => ?_)
  refine W.eq (g2 := F0 m 5 ls [.ref nd]) rfl ?_
  refine lv_astore_n (lv' := [(3, .ref nd), (0, .ref ob), (1, .int x1), (2, .int x2)]) hx hb dX2_read_5 rfl hl (by decide) rfl (fun ls hl => ?_)
  refine lv_iload_n hx hb dX2_read_6 rfl (lv_at hl 3 rfl) ?_
  by_cases c_2 : x2 = 0
  · refine lv_tableIn (tgt := 56) (off := 49) hx hb dX2_read_7 (by rw [c_2]; decide) (by rw [c_2]; decide) (by rw [c_2]; rfl) (by decide) ?_
    refine lv_aload_n hx hb dX2_read_56 rfl (lv_at hl 0 rfl) ?_
    refine pg_get hx hb hts hin_X1_X2_read hown hK hP hL_nd hg_nd rfl 3 (by decide) (hts (.fieldLink RX2 65 "NeedleBoard$Needle" "value" "J") (by decide +kernel)) rfl dX2_read_57 ?_
    have hF : fX2_read made mvs twi tna fa i nlo nhi nv nst nhs nls ngs x1 x2 = (0, nv) := (by unfold fX2_read; rw [if_pos c_2])
    have hF0 : (fX2_read made mvs twi tna fa i nlo nhi nv nst nhs nls ngs x1 x2).1 = 0 := by rw [hF]
    have hF1 : (fX2_read made mvs twi tna fa i nlo nhi nv nst nhs nls ngs x1 x2).2 = nv := by rw [hF]
    exact vx_ret (W.widen (k := 2) (n := 12) (Nat.le_of_ble_eq_true rfl) (Nat.le_of_ble_eq_true rfl) (W.lret hx hb hr (fun t ht _ => ⟨hF0, congrArg (fun z => Outcome.returned (some (Value.long z))) hF1.symm, ht⟩) (fun _ h => nomatch h) dX2_read_60))
  · by_cases c_3 : x2 = 1
    · refine lv_tableIn (tgt := 61) (off := 54) hx hb dX2_read_7 (by rw [c_3]; decide) (by rw [c_3]; decide) (by rw [c_3]; rfl) (by decide) ?_
      refine lv_aload_n hx hb dX2_read_61 rfl (lv_at hl 0 rfl) ?_
      refine pg_get hx hb hts hin_X1_X2_read hown hK hP hL_nd hg_nd rfl 1 (by decide) (hts (.fieldLink RX2 100 "NeedleBoard$Needle" "low" "J") (by decide +kernel)) rfl dX2_read_62 ?_
      have hF : fX2_read made mvs twi tna fa i nlo nhi nv nst nhs nls ngs x1 x2 = (0, nlo) := (by unfold fX2_read; rw [if_neg c_2, if_pos c_3])
      have hF0 : (fX2_read made mvs twi tna fa i nlo nhi nv nst nhs nls ngs x1 x2).1 = 0 := by rw [hF]
      have hF1 : (fX2_read made mvs twi tna fa i nlo nhi nv nst nhs nls ngs x1 x2).2 = nlo := by rw [hF]
      exact vx_ret (W.widen (k := 2) (n := 12) (Nat.le_of_ble_eq_true rfl) (Nat.le_of_ble_eq_true rfl) (W.lret hx hb hr (fun t ht _ => ⟨hF0, congrArg (fun z => Outcome.returned (some (Value.long z))) hF1.symm, ht⟩) (fun _ h => nomatch h) dX2_read_65))
    · by_cases c_4 : x2 = 2
      · refine lv_tableIn (tgt := 66) (off := 59) hx hb dX2_read_7 (by rw [c_4]; decide) (by rw [c_4]; decide) (by rw [c_4]; rfl) (by decide) ?_
        refine lv_aload_n hx hb dX2_read_66 rfl (lv_at hl 0 rfl) ?_
        refine pg_get hx hb hts hin_X1_X2_read hown hK hP hL_nd hg_nd rfl 2 (by decide) (hts (.fieldLink RX2 103 "NeedleBoard$Needle" "high" "J") (by decide +kernel)) rfl dX2_read_67 ?_
        have hF : fX2_read made mvs twi tna fa i nlo nhi nv nst nhs nls ngs x1 x2 = (0, nhi) := (by unfold fX2_read; rw [if_neg c_2, if_neg c_3, if_pos c_4])
        have hF0 : (fX2_read made mvs twi tna fa i nlo nhi nv nst nhs nls ngs x1 x2).1 = 0 := by rw [hF]
        have hF1 : (fX2_read made mvs twi tna fa i nlo nhi nv nst nhs nls ngs x1 x2).2 = nhi := by rw [hF]
        exact vx_ret (W.widen (k := 2) (n := 12) (Nat.le_of_ble_eq_true rfl) (Nat.le_of_ble_eq_true rfl) (W.lret hx hb hr (fun t ht _ => ⟨hF0, congrArg (fun z => Outcome.returned (some (Value.long z))) hF1.symm, ht⟩) (fun _ h => nomatch h) dX2_read_70))
      · by_cases c_5 : x2 = 3
        · refine lv_tableIn (tgt := 71) (off := 64) hx hb dX2_read_7 (by rw [c_5]; decide) (by rw [c_5]; decide) (by rw [c_5]; rfl) (by decide) ?_
          refine lv_aload_n hx hb dX2_read_71 rfl (lv_at hl 0 rfl) ?_
          refine pg_get hx hb hts hin_X1_X2_read hown hK hP hL_nd hg_nd rfl 5 (by decide) (hts (.fieldLink RX2 106 "NeedleBoard$Needle" "highest" "J") (by decide +kernel)) rfl dX2_read_72 ?_
          have hF : fX2_read made mvs twi tna fa i nlo nhi nv nst nhs nls ngs x1 x2 = (0, nhs) := (by unfold fX2_read; rw [if_neg c_2, if_neg c_3, if_neg c_4, if_pos c_5])
          have hF0 : (fX2_read made mvs twi tna fa i nlo nhi nv nst nhs nls ngs x1 x2).1 = 0 := by rw [hF]
          have hF1 : (fX2_read made mvs twi tna fa i nlo nhi nv nst nhs nls ngs x1 x2).2 = nhs := by rw [hF]
          exact vx_ret (W.widen (k := 2) (n := 12) (Nat.le_of_ble_eq_true rfl) (Nat.le_of_ble_eq_true rfl) (W.lret hx hb hr (fun t ht _ => ⟨hF0, congrArg (fun z => Outcome.returned (some (Value.long z))) hF1.symm, ht⟩) (fun _ h => nomatch h) dX2_read_75))
        · by_cases c_6 : x2 = 4
          · refine lv_tableIn (tgt := 76) (off := 69) hx hb dX2_read_7 (by rw [c_6]; decide) (by rw [c_6]; decide) (by rw [c_6]; rfl) (by decide) ?_
            refine lv_aload_n hx hb dX2_read_76 rfl (lv_at hl 0 rfl) ?_
            refine pg_get hx hb hts hin_X1_X2_read hown hK hP hL_nd hg_nd rfl 6 (by decide) (hts (.fieldLink RX2 109 "NeedleBoard$Needle" "lowest" "J") (by decide +kernel)) rfl dX2_read_77 ?_
            have hF : fX2_read made mvs twi tna fa i nlo nhi nv nst nhs nls ngs x1 x2 = (0, nls) := (by unfold fX2_read; rw [if_neg c_2, if_neg c_3, if_neg c_4, if_neg c_5, if_pos c_6])
            have hF0 : (fX2_read made mvs twi tna fa i nlo nhi nv nst nhs nls ngs x1 x2).1 = 0 := by rw [hF]
            have hF1 : (fX2_read made mvs twi tna fa i nlo nhi nv nst nhs nls ngs x1 x2).2 = nls := by rw [hF]
            exact vx_ret (W.widen (k := 2) (n := 12) (Nat.le_of_ble_eq_true rfl) (Nat.le_of_ble_eq_true rfl) (W.lret hx hb hr (fun t ht _ => ⟨hF0, congrArg (fun z => Outcome.returned (some (Value.long z))) hF1.symm, ht⟩) (fun _ h => nomatch h) dX2_read_80))
          · by_cases c_7 : x2 = 5
            · refine lv_tableIn (tgt := 81) (off := 74) hx hb dX2_read_7 (by rw [c_7]; decide) (by rw [c_7]; decide) (by rw [c_7]; rfl) (by decide) ?_
              refine lv_aload_n hx hb dX2_read_81 rfl (lv_at hl 0 rfl) ?_
              refine pg_get hx hb hts hin_X1_X2_read hown hK hP hL_nd hg_nd rfl 7 (by decide) (hts (.fieldLink RX2 112 "NeedleBoard$Needle" "greatestSize" "J") (by decide +kernel)) rfl dX2_read_82 ?_
              have hF : fX2_read made mvs twi tna fa i nlo nhi nv nst nhs nls ngs x1 x2 = (0, ngs) := (by unfold fX2_read; rw [if_neg c_2, if_neg c_3, if_neg c_4, if_neg c_5, if_neg c_6, if_pos c_7])
              have hF0 : (fX2_read made mvs twi tna fa i nlo nhi nv nst nhs nls ngs x1 x2).1 = 0 := by rw [hF]
              have hF1 : (fX2_read made mvs twi tna fa i nlo nhi nv nst nhs nls ngs x1 x2).2 = ngs := by rw [hF]
              exact vx_ret (W.widen (k := 2) (n := 12) (Nat.le_of_ble_eq_true rfl) (Nat.le_of_ble_eq_true rfl) (W.lret hx hb hr (fun t ht _ => ⟨hF0, congrArg (fun z => Outcome.returned (some (Value.long z))) hF1.symm, ht⟩) (fun _ h => nomatch h) dX2_read_85))
            · by_cases c_8 : x2 = 6
              · refine lv_tableIn (tgt := 86) (off := 79) hx hb dX2_read_7 (by rw [c_8]; decide) (by rw [c_8]; decide) (by rw [c_8]; rfl) (by decide) ?_
                refine lv_aload_n hx hb dX2_read_86 rfl (lv_at hl 0 rfl) ?_
                refine pg_get hx hb hts hin_X1_X2_read hown hK hP hL_nd hg_nd rfl 4 (by decide) (hts (.fieldLink RX2 82 "NeedleBoard$Needle" "step" "J") (by decide +kernel)) rfl dX2_read_87 ?_
                have hF : fX2_read made mvs twi tna fa i nlo nhi nv nst nhs nls ngs x1 x2 = (0, nst) := (by unfold fX2_read; rw [if_neg c_2, if_neg c_3, if_neg c_4, if_neg c_5, if_neg c_6, if_neg c_7, if_pos c_8])
                have hF0 : (fX2_read made mvs twi tna fa i nlo nhi nv nst nhs nls ngs x1 x2).1 = 0 := by rw [hF]
                have hF1 : (fX2_read made mvs twi tna fa i nlo nhi nv nst nhs nls ngs x1 x2).2 = nst := by rw [hF]
                exact vx_ret (W.widen (k := 2) (n := 12) (Nat.le_of_ble_eq_true rfl) (Nat.le_of_ble_eq_true rfl) (W.lret hx hb hr (fun t ht _ => ⟨hF0, congrArg (fun z => Outcome.returned (some (Value.long z))) hF1.symm, ht⟩) (fun _ h => nomatch h) dX2_read_90))
              · by_cases c_9 : x2 = 7
                · refine lv_tableIn (tgt := 91) (off := 84) hx hb dX2_read_7 (by rw [c_9]; decide) (by rw [c_9]; decide) (by rw [c_9]; rfl) (by decide) ?_
                  refine lv_aload_n hx hb dX2_read_91 rfl (lv_at hl 0 rfl) ?_
                  refine pg_get hx hb hts hin_X1_X2_read hown hK hP hL_nd hg_nd rfl 0 (by decide) (hts (.fieldLink RX2 55 "NeedleBoard$Needle" "kind" "LNeedleBoard$Kind;") (by decide +kernel)) rfl dX2_read_92 ?_
                  refine lv_aload_n hx hb dX2_read_95 rfl (lv_at hl 0 rfl) ?_
                  refine pg_get hx hb hts hin_X1_X2_read hown hK hP hL_nd hg_nd rfl 3 (by decide) (hts (.fieldLink RX2 65 "NeedleBoard$Needle" "value" "J") (by decide +kernel)) rfl dX2_read_96 ?_
                  refine pc_V (i := i) (As := [.long nv]) (rest := []) (r := .long (fX0_sizeOf i nv)) ⟨hx, hb, hml, hown, hts⟩ (c_X0_sizeOf l ad i hi nv) (cwV 1 hts gX2_read_X0_sizeOf rfl rfl rfl hd_X0_sizeOf ⟨Nat.le_of_ble_eq_true rfl, Nat.le_of_ble_eq_true rfl⟩) hKC hS hi rfl hl.1 rfl (lv_room (Nat.le_of_ble_eq_true rfl)) dX2_read_99 ⟨Nat.le_of_ble_eq_true rfl, Nat.le_of_ble_eq_true rfl⟩ ?_
                  have hF : fX2_read made mvs twi tna fa i nlo nhi nv nst nhs nls ngs x1 x2 = (0, fX0_sizeOf i nv) := (by unfold fX2_read; rw [if_neg c_2, if_neg c_3, if_neg c_4, if_neg c_5, if_neg c_6, if_neg c_7, if_neg c_8, if_pos c_9])
                  have hF0 : (fX2_read made mvs twi tna fa i nlo nhi nv nst nhs nls ngs x1 x2).1 = 0 := by rw [hF]
                  have hF1 : (fX2_read made mvs twi tna fa i nlo nhi nv nst nhs nls ngs x1 x2).2 = fX0_sizeOf i nv := by rw [hF]
                  exact vx_ret (W.widen (k := 2) (n := 12) (Nat.le_of_ble_eq_true rfl) (Nat.le_of_ble_eq_true rfl) (W.lret hx hb hr (fun t ht _ => ⟨hF0, congrArg (fun z => Outcome.returned (some (Value.long z))) hF1.symm, ht⟩) (fun _ h => nomatch h) dX2_read_102))
                · by_cases c_10 : x2 = 8
                  · refine lv_tableIn (tgt := 103) (off := 96) hx hb dX2_read_7 (by rw [c_10]; decide) (by rw [c_10]; decide) (by rw [c_10]; rfl) (by decide) ?_
                    refine lv_aload_n hx hb dX2_read_103 rfl (lv_at hl 0 rfl) ?_
                    refine pg_get hx hb hts hin_X1_X2_read hown hK hP hL_nd hg_nd rfl 0 (by decide) (hts (.fieldLink RX2 55 "NeedleBoard$Needle" "kind" "LNeedleBoard$Kind;") (by decide +kernel)) rfl dX2_read_104 ?_
                    refine lv_aload_n hx hb dX2_read_107 rfl (lv_at hl 0 rfl) ?_
                    refine pg_get hx hb hts hin_X1_X2_read hown hK hP hL_nd hg_nd rfl 3 (by decide) (hts (.fieldLink RX2 65 "NeedleBoard$Needle" "value" "J") (by decide +kernel)) rfl dX2_read_108 ?_
                    refine pc_V (i := i) (As := [.long nv]) (rest := []) (r := .long (fX0_unitOf i nv)) ⟨hx, hb, hml, hown, hts⟩ (c_X0_unitOf l ad i hi nv) (cwV 1 hts gX2_read_X0_unitOf rfl rfl rfl hd_X0_unitOf ⟨Nat.le_of_ble_eq_true rfl, Nat.le_of_ble_eq_true rfl⟩) hKC hS hi rfl hl.1 rfl (lv_room (Nat.le_of_ble_eq_true rfl)) dX2_read_111 ⟨Nat.le_of_ble_eq_true rfl, Nat.le_of_ble_eq_true rfl⟩ ?_
                    have hF : fX2_read made mvs twi tna fa i nlo nhi nv nst nhs nls ngs x1 x2 = (0, fX0_unitOf i nv) := (by unfold fX2_read; rw [if_neg c_2, if_neg c_3, if_neg c_4, if_neg c_5, if_neg c_6, if_neg c_7, if_neg c_8, if_neg c_9, if_pos c_10])
                    have hF0 : (fX2_read made mvs twi tna fa i nlo nhi nv nst nhs nls ngs x1 x2).1 = 0 := by rw [hF]
                    have hF1 : (fX2_read made mvs twi tna fa i nlo nhi nv nst nhs nls ngs x1 x2).2 = fX0_unitOf i nv := by rw [hF]
                    exact vx_ret (W.widen (k := 2) (n := 12) (Nat.le_of_ble_eq_true rfl) (Nat.le_of_ble_eq_true rfl) (W.lret hx hb hr (fun t ht _ => ⟨hF0, congrArg (fun z => Outcome.returned (some (Value.long z))) hF1.symm, ht⟩) (fun _ h => nomatch h) dX2_read_114))
                  · refine lv_tableOut (tgt := 115) hx hb dX2_read_7 (by have h0 := lv_neT c_2 (a := 0) rfl; have h1 := lv_neT c_3 (a := 1) rfl; have h2 := lv_neT c_4 (a := 2) rfl; have h3 := lv_neT c_5 (a := 3) rfl; have h4 := lv_neT c_6 (a := 4) rfl; have h5 := lv_neT c_7 (a := 5) rfl; have h6 := lv_neT c_8 (a := 6) rfl; have h7 := lv_neT c_9 (a := 7) rfl; have h8 := lv_neT c_10 (a := 8) rfl; omega) (by decide) ?_
                    have hF : fX2_read made mvs twi tna fa i nlo nhi nv nst nhs nls ngs x1 x2 = (2, (0 : Int64)) := (by unfold fX2_read; rw [if_neg c_2, if_neg c_3, if_neg c_4, if_neg c_5, if_neg c_6, if_neg c_7, if_neg c_8, if_neg c_9, if_neg c_10])
                    exact th_A (is := 118) (text := "there is no such thing to read") hx hb hfl hown (hts (.classLink RX2 32 "java/lang/IllegalArgumentException") (by decide +kernel)) (hts (.initialized "java/lang/IllegalArgumentException") (by decide +kernel)) (fun w hw => hts w (hgA_X2_read w hw)) hXN (by decide +kernel) hP0 hK hD0 hKC0 hTC (hl.1.trans hml.symm) dX2_read_115 dX2_read_118 dX2_read_119 dX2_read_121 dX2_read_124 hout (Nat.le_of_ble_eq_true rfl) (Nat.le_of_ble_eq_true rfl) (Nat.le_of_ble_eq_true rfl) (Nat.le_of_ble_eq_true rfl) hlocks (by rw [hF]) (Nat.le_of_ble_eq_true rfl) (Nat.le_of_ble_eq_true rfl)
theorem hd_X2_back : yX2_back.cls = RX2 ∧ yX2_back.cls ≠ "java/lang/invoke/MethodHandle" ∧ yX2_back.cls ≠ "java/lang/invoke/VarHandle" ∧ (parseMethodDescriptor yX2_back.desc).map (fun d => d.parameters.length) = some 1 := by decide +kernel
set_option maxHeartbeats 1000000 in
set_option maxRecDepth 100000 in
theorem c_X2_back_no (l : Launch) (hfl : l.stackTraces = false) {cyN : ClassId} (D : va_G) (tys : List (ClassId × FieldType)) (ad : Nat → Nat) (L : List Nat) (g : Nat → va_E) (ob arr : Nat) (made : Int32) (mvs : Int32) (twi : Int64) (tna : Int32) (fa : Nat → Option Nat) (x1 : Int32) (hL_ob : ob ∈ L) (hL_arr : arr ∈ L) (hg_ob : g ob = .inr (2, [.ref arr, .int made, .int mvs, .long twi, .int tna])) (hg_arr : g arr = .inl (cyN, 8, .inr (.inr (.inr (.inr fa))))) (htN : tys[2]? = some (cyN, .object RX1)) (hab : ¬ vp_in x1 8 ∨ fa x1.toNatClampNeg = none) : vx_Met l yX2_back wsX2_back ({ frames := 7, cells := 1, slots := 6, locals := 104 }) (PW D tys ad L g [.ref ob, .int x1]) (QR (1) none) (XW D tys ad L g (1)) 1 6 (fun _ => False) := by
  refine vx_ofW (cc := cX2_back) (maxL := 2) (ret := none) (by decide) rfl ?_
  intro p e s m args below meth c s₁ B hml hout hv
  obtain ⟨rfl, ⟨hP, hK, hD0, hKC0, hTC⟩, hXN⟩ := hv
  have hP0 := hP
  have hD : va_D (fun q => q ∈ L) (va_pl L g) := we_D (fun _ h => h) hD0
  have hKC : KC ad (fun q => q ∈ L) s s.heap := hKC0.narrow (fun _ h => Or.inl h)
  have hS : va_S (fun q => q ∈ L) s.heap s.heap [] := va_S.rf
  have hx := B.exec
  have hb := B.bytes
  have hr := B.returns
  have hts := atoms_spec (ws := wsX2_back) B.pre
  have hown : s.vm.findClass RX2 = some m.cls := findClass_of_methodNamed B.named
  have hlocks := B.notSynchronized
  have hl := lv_entry ([.ref ob, .int x1]) (n := 2) (Nat.le_of_ble_eq_true rfl)
  rw [lg_entry_eq]
  generalize (lg_sl ([.ref ob, .int x1]) ++ List.replicate (2 - (lg_sl ([.ref ob, .int x1])).length) Slot.unset).toArray = ls at hl ⊢
  have hl : lv_has ls 2 [(0, .ref ob), (1, .int x1)] := hl
  refine lv_aload_n hx hb dX2_back_0 rfl (lv_at hl 0 rfl) ?_
  refine lv_iload_n hx hb dX2_back_1 rfl (lv_at hl 1 rfl) ?_
  exact xp_V (b := ob) (As := [.int x1]) (rest := []) ⟨hx, hb, hml, hown, hts⟩ (c_X2_needleAt_no l hfl D tys ad L g  ob arr made mvs twi tna fa x1 hL_ob hL_arr hg_ob hg_arr htN hab) (cwV 1 hts gX2_back_X2_needleAt rfl rfl rfl hd_X2_needleAt ⟨Nat.le_of_ble_eq_true rfl, Nat.le_of_ble_eq_true rfl⟩) (pg_recv hK hP hL_ob hg_ob rfl) (fun U hU hvm => WM hP hK hD hKC0 hTC hS hU hvm) hXN rfl hl.1 rfl (lv_room (Nat.le_of_ble_eq_true rfl)) dX2_back_2 ⟨Nat.le_of_ble_eq_true rfl, Nat.le_of_ble_eq_true rfl⟩ hout hlocks (fun _ => rfl) (Nat.le_of_ble_eq_true rfl) (Nat.le_of_ble_eq_true rfl) (fun h9 => absurd h9 (by decide))
def fX2_back (made : Int32) (mvs : Int32) (twi : Int64) (tna : Int32) (fa : Nat → Option Nat) (i : Nat) (nlo : Int64) (nhi : Int64) (nv : Int64) (nst : Int64) (nhs : Int64) (nls : Int64) (ngs : Int64) (x1 : Int32) : Nat × Int64 × Int64 × Int64 × Int64 :=
  (0, (fX1_startAgain i nlo nhi nv nst nhs nls ngs).1, (fX1_startAgain i nlo nhi nv nst nhs nls ngs).2.1, (fX1_startAgain i nlo nhi nv nst nhs nls ngs).2.2.1, (fX1_startAgain i nlo nhi nv nst nhs nls ngs).2.2.2)
set_option maxHeartbeats 1000000 in
set_option maxRecDepth 100000 in
theorem c_X2_back (l : Launch) (hfl : l.stackTraces = false) {cyN : ClassId} (D : va_G) (tys : List (ClassId × FieldType)) (ad : Nat → Nat) (L : List Nat) (g : Nat → va_E) (ob arr nd : Nat) (made : Int32) (mvs : Int32) (twi : Int64) (tna : Int32) (fa : Nat → Option Nat) (i : Nat) (nlo : Int64) (nhi : Int64) (nv : Int64) (nst : Int64) (nhs : Int64) (nls : Int64) (ngs : Int64) (x1 : Int32) (hi : i < 2) (hL_ob : ob ∈ L) (hL_arr : arr ∈ L) (hL_nd : nd ∈ L) (hg_ob : g ob = .inr (2, [.ref arr, .int made, .int mvs, .long twi, .int tna])) (hg_arr : g arr = .inl (cyN, 8, .inr (.inr (.inr (.inr fa))))) (hg_nd : g nd = .inr (1, [.ref (ad i), .long nlo, .long nhi, .long nv, .long nst, .long nhs, .long nls, .long ngs])) (ne_ob_nd : ob ≠ nd) (ne_arr_nd : arr ≠ nd) (htN : tys[2]? = some (cyN, .object RX1)) (hia : vp_in x1 8) (hfa : fa x1.toNatClampNeg = some nd) : vx_Met l yX2_back wsX2_back ({ frames := 7, cells := 1, slots := 6, locals := 112 }) (PW D tys ad L g [.ref ob, .int x1]) (QEc D tys ad L ((fX2_back made mvs twi tna fa i nlo nhi nv nst nhs nls ngs x1).1) none (fun g1 => g1 nd = .inr (1, [.ref (ad i), .long nlo, .long nhi, .long ((fX2_back made mvs twi tna fa i nlo nhi nv nst nhs nls ngs x1).2.1), .long nst, .long ((fX2_back made mvs twi tna fa i nlo nhi nv nst nhs nls ngs x1).2.2.1), .long ((fX2_back made mvs twi tna fa i nlo nhi nv nst nhs nls ngs x1).2.2.2.1), .long ((fX2_back made mvs twi tna fa i nlo nhi nv nst nhs nls ngs x1).2.2.2.2)]) ∧ ∀ q : Nat, q ≠ nd → g1 q = g q)) (XW D tys ad L g ((fX2_back made mvs twi tna fa i nlo nhi nv nst nhs nls ngs x1).1)) 1 6 (fun q => q ∈ L) := by
  refine vx_ofW (cc := cX2_back) (maxL := 2) (ret := none) (by decide) rfl ?_
  intro p e s m args below meth c s₁ B hml hout hv
  obtain ⟨rfl, ⟨hP, hK, hD0, hKC0, hTC⟩, hXN⟩ := hv
  have hP0 := hP
  have hD : va_D (fun q => q ∈ L) (va_pl L g) := we_D (fun _ h => h) hD0
  have hKC : KC ad (fun q => q ∈ L) s s.heap := hKC0.narrow (fun _ h => Or.inl h)
  have hS : va_S (fun q => q ∈ L) s.heap s.heap [] := va_S.rf
  have hx := B.exec
  have hb := B.bytes
  have hr := B.returns
  have hts := atoms_spec (ws := wsX2_back) B.pre
  have hown : s.vm.findClass RX2 = some m.cls := findClass_of_methodNamed B.named
  have hlocks := B.notSynchronized
  have hrs : ∀ q : Nat, q ≠ nd → g q = g q := fun q _ => rfl
  have hl := lv_entry ([.ref ob, .int x1]) (n := 2) (Nat.le_of_ble_eq_true rfl)
  rw [lg_entry_eq]
  generalize (lg_sl ([.ref ob, .int x1]) ++ List.replicate (2 - (lg_sl ([.ref ob, .int x1])).length) Slot.unset).toArray = ls at hl ⊢
  have hl : lv_has ls 2 [(0, .ref ob), (1, .int x1)] := hl
  refine lv_aload_n hx hb dX2_back_0 rfl (lv_at hl 0 rfl) ?_
  refine lv_iload_n hx hb dX2_back_1 rfl (lv_at hl 1 rfl) ?_
  refine xp_V (b := ob) (As := [.int x1]) (rest := []) ⟨hx, hb, hml, hown, hts⟩ (c_X2_needleAt_ok l hfl D tys ad L g  ob arr nd made mvs twi tna fa x1 hL_ob hL_arr hg_ob hg_arr htN hia hfa) (cwV 1 hts gX2_back_X2_needleAt rfl rfl rfl hd_X2_needleAt ⟨Nat.le_of_ble_eq_true rfl, Nat.le_of_ble_eq_true rfl⟩) (pg_recv hK hP hL_ob hg_ob rfl) (fun U hU hvm => WM hP hK hD hKC0 hTC hS hU hvm) hXN rfl hl.1 rfl (lv_room (Nat.le_of_ble_eq_true rfl)) dX2_back_2 ⟨Nat.le_of_ble_eq_true rfl, Nat.le_of_ble_eq_true rfl⟩ hout hlocks (fun h9 => absurd rfl h9) (Nat.le_of_ble_eq_true rfl) (Nat.le_of_ble_eq_true rfl) (fun _ => ?_)
  refine W.eq (g2 := F0 m 5 ls [.ref nd]) rfl ?_
  refine mc_V (b := nd) (As := []) (rest := []) ⟨hx, hb, hml, hown, hts⟩ (c_X1_startAgain l D tys ad L g  nd i nlo nhi nv nst nhs nls ngs hi hL_nd hg_nd) (cwV 0 hts gX2_back_X1_startAgain rfl rfl rfl hd_X1_startAgain ⟨Nat.le_of_ble_eq_true rfl, Nat.le_of_ble_eq_true rfl⟩) (pg_recv hK hP hL_nd hg_nd rfl) (fun U hU hvm => WM hP hK hD hKC0 hTC hS hU hvm) hXN hS (fun _ h => h) rfl hl.1 rfl (lv_room (Nat.le_of_ble_eq_true rfl)) dX2_back_5 ⟨Nat.le_of_ble_eq_true rfl, Nat.le_of_ble_eq_true rfl⟩ (fun g1 H locs hp9 hP hD hS => ?_)
  refine W.eq (g2 := F0 m 8 ls []) rfl ?_
  obtain ⟨hn9_nd, hr9⟩ := hp9
  have hg_ob : g1 ob = .inr (2, [.ref arr, .int made, .int mvs, .long twi, .int tna]) := (hr9 ob ne_ob_nd).trans hg_ob
  have hg_arr : g1 arr = .inl (cyN, 8, .inr (.inr (.inr (.inr fa)))) := (hr9 arr ne_arr_nd).trans hg_arr
  have hg_nd : g1 nd = .inr (1, [.ref (ad i), .long nlo, .long nhi, .long ((fX1_startAgain i nlo nhi nv nst nhs nls ngs).1), .long nst, .long ((fX1_startAgain i nlo nhi nv nst nhs nls ngs).2.1), .long ((fX1_startAgain i nlo nhi nv nst nhs nls ngs).2.2.1), .long ((fX1_startAgain i nlo nhi nv nst nhs nls ngs).2.2.2)]) := hn9_nd
  have hrs : ∀ q : Nat, q ≠ nd → g1 q = g q := fun q h_nd => (hr9 q h_nd).trans (hrs q h_nd)
  have hF : fX2_back made mvs twi tna fa i nlo nhi nv nst nhs nls ngs x1 = (0, (fX1_startAgain i nlo nhi nv nst nhs nls ngs).1, (fX1_startAgain i nlo nhi nv nst nhs nls ngs).2.1, (fX1_startAgain i nlo nhi nv nst nhs nls ngs).2.2.1, (fX1_startAgain i nlo nhi nv nst nhs nls ngs).2.2.2) := (by rfl)
  have hF0 : (fX2_back made mvs twi tna fa i nlo nhi nv nst nhs nls ngs x1).1 = 0 := by rw [hF]
  have hF1 : (fX2_back made mvs twi tna fa i nlo nhi nv nst nhs nls ngs x1).2.1 = (fX1_startAgain i nlo nhi nv nst nhs nls ngs).1 := by rw [hF]
  have hF2 : (fX2_back made mvs twi tna fa i nlo nhi nv nst nhs nls ngs x1).2.2.1 = (fX1_startAgain i nlo nhi nv nst nhs nls ngs).2.1 := by rw [hF]
  have hF3 : (fX2_back made mvs twi tna fa i nlo nhi nv nst nhs nls ngs x1).2.2.2.1 = (fX1_startAgain i nlo nhi nv nst nhs nls ngs).2.2.1 := by rw [hF]
  have hF4 : (fX2_back made mvs twi tna fa i nlo nhi nv nst nhs nls ngs x1).2.2.2.2 = (fX1_startAgain i nlo nhi nv nst nhs nls ngs).2.2.2 := by rw [hF]
  exact vx_ret (W.widen (k := 1) (n := 6) (Nat.le_of_ble_eq_true rfl) (Nat.le_of_ble_eq_true rfl) (W.vret hx hb hr (fun t ht hW => ⟨hF0, rfl, ⟨g1, WM hP hK hD hKC0 hTC hS ht hW.alike, by rw [hF1, hF2, hF3, hF4]; exact ⟨hg_nd, hrs⟩⟩, hS.F ht⟩) (fun q h => hS.2.2 q h) dX2_back_8))
