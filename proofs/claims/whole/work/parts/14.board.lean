theorem hd_X2_needleAt : yX2_needleAt.cls = RX2 ∧ yX2_needleAt.cls ≠ "java/lang/invoke/MethodHandle" ∧ yX2_needleAt.cls ≠ "java/lang/invoke/VarHandle" ∧ (parseMethodDescriptor yX2_needleAt.desc).map (fun d => d.parameters.length) = some 1 := by decide +kernel
theorem hin_X2_X2_needleAt : ∀ w ∈ wsX20, w ∈ wsX2_needleAt := by decide +kernel
theorem hgN_X2_needleAt : ∀ w ∈ ns_atg, w ∈ wsX2_needleAt := by
  intro w h
  simp only [wsX2_needleAt, List.mem_cons, List.mem_append]
  simp only [h, or_true, true_or]
theorem in8_lt {x : Int32} (h : vp_in x 8) : ¬ x < 0 ∧ x < 8 := by
  have h1 := vp_in_iff.mp h
  have a4 : (0 : Int32).toInt = 0 := rfl
  have a5 : (8 : Int32).toInt = 8 := rfl
  exact ⟨fun q => by have := Int32.lt_iff_toInt_lt.mp q; omega, Int32.lt_iff_toInt_lt.mpr (by omega)⟩
theorem in8_of {x : Int32} (h1 : ¬ x < 0) (h2 : x < 8) : vp_in x 8 := by
  have a1 := mt Int32.lt_iff_toInt_lt.mpr h1
  have a2 := Int32.lt_iff_toInt_lt.mp h2
  have a4 : (0 : Int32).toInt = 0 := rfl
  have a5 : (8 : Int32).toInt = 8 := rfl
  exact vp_in_iff.mpr ⟨by omega, by omega⟩
set_option maxHeartbeats 1000000 in
set_option maxRecDepth 100000 in
theorem c_X2_needleAt_ok (l : Launch) (hfl : l.stackTraces = false) {cyN : ClassId} (D : va_G) (tys : List (ClassId × FieldType)) (ad : Nat → Nat) (L : List Nat) (g : Nat → va_E) (ob arr nd : Nat) (made : Int32) (mvs : Int32) (twi : Int64) (tna : Int32) (fa : Nat → Option Nat) (x1 : Int32) (hL_ob : ob ∈ L) (hL_arr : arr ∈ L) (hg_ob : g ob = .inr (2, [.ref arr, .int made, .int mvs, .long twi, .int tna])) (hg_arr : g arr = .inl (cyN, 8, .inr (.inr (.inr (.inr fa))))) (htN : tys[2]? = some (cyN, .object RX1)) (hia : vp_in x1 8) (hfa : fa x1.toNatClampNeg = some nd) :
    vx_Met l yX2_needleAt wsX2_needleAt ({ frames := 6, cells := 1, slots := 6, locals := 82 }) (PW D tys ad L g [.ref ob, .int x1]) (QR 0 (some (.ref nd))) (XW D tys ad L g 0) 1 6 (fun _ => False) := by
  refine vx_ofW (cc := cX2_needleAt) (maxL := 3) (ret := (some (.object "NeedleBoard$Needle"))) (by decide) rfl ?_
  intro p e s m args below meth c s₁ B hml hout hv
  obtain ⟨rfl, ⟨hP, hK, hD0, hKC0, hTC⟩, hXN⟩ := hv
  have hx := B.exec
  have hb := B.bytes
  have hr := B.returns
  have hts := atoms_spec (ws := wsX2_needleAt) B.pre
  have hown : s.vm.findClass RX2 = some m.cls := findClass_of_methodNamed B.named
  have hlocks := B.notSynchronized
  have hl := lv_entry ([.ref ob, .int x1]) (n := 3) (Nat.le_of_ble_eq_true rfl)
  rw [lg_entry_eq]
  generalize (lg_sl ([.ref ob, .int x1]) ++ List.replicate (3 - (lg_sl ([.ref ob, .int x1])).length) Slot.unset).toArray = ls at hl ⊢
  have hl : lv_has ls 3 [(0, .ref ob), (1, .int x1)] := hl
  refine lv_iload_n hx hb dX2_needleAt_0 rfl (lv_at hl 1 rfl) ?_
  refine lv_if_lt (tgt := 13) hx hb dX2_needleAt_1 (by decide) (fun c_1 => absurd c_1 (in8_lt hia).1) (fun c_1 => ?_)
  refine lv_iload_n hx hb dX2_needleAt_4 rfl (lv_at hl 1 rfl) ?_
  refine lv_aload_n hx hb dX2_needleAt_5 rfl (lv_at hl 0 rfl) ?_
  refine pg_get hx hb hts hin_X2_X2_needleAt hown hK hP hL_ob hg_ob rfl 0 (by decide) (hts (.fieldLink RX2 11 "NeedleBoard" "needles" "[LNeedleBoard$Needle;") (by decide +kernel)) rfl dX2_needleAt_6 ?_
  refine pg_alen (v := 8) hx hb hK hP 2 hL_arr hg_arr htN rfl dX2_needleAt_9 ?_
  refine lv_icmp_lt (tgt := 17) hx hb dX2_needleAt_10 (by decide) (fun c_2 => ?_) (fun c_2 => absurd (in8_lt hia).2 c_2)
  refine lv_aload_n hx hb dX2_needleAt_17 rfl (lv_at hl 0 rfl) ?_
  refine pg_get hx hb hts hin_X2_X2_needleAt hown hK hP hL_ob hg_ob rfl 0 (by decide) (hts (.fieldLink RX2 11 "NeedleBoard" "needles" "[LNeedleBoard$Needle;") (by decide +kernel)) rfl dX2_needleAt_18 ?_
  refine lv_iload_n hx hb dX2_needleAt_21 rfl (lv_at hl 1 rfl) ?_
  refine pg_aald hx hb hK hP 2 hL_arr hg_arr htN hia dX2_needleAt_22 ?_
  rw [hfa]
  refine W.eq (g2 := F0 m 23 ls [.ref nd]) rfl ?_
  refine lv_astore_n (lv' := [(2, .ref nd), (0, .ref ob), (1, .int x1)]) hx hb dX2_needleAt_23 rfl hl (by decide) rfl (fun ls hl => ?_)
  refine lv_aload_n hx hb dX2_needleAt_24 rfl (lv_at hl 0 rfl) ?_
  refine lv_ifnonnull (tgt := 38) hx hb dX2_needleAt_25 (by decide) ?_
  refine lv_aload_n hx hb dX2_needleAt_38 rfl (lv_at hl 0 rfl) ?_
  exact vx_ret (W.widen (k := 1) (n := 6) (Nat.le_of_ble_eq_true rfl) (Nat.le_of_ble_eq_true rfl) (W.aret hx hb hr (Or.inl ⟨_, rfl⟩) (Or.inr ⟨_, rfl⟩) (fun t ht _ => ⟨rfl, rfl, ht⟩) (fun _ h => nomatch h) dX2_needleAt_39))
set_option maxHeartbeats 1000000 in
set_option maxRecDepth 100000 in
theorem c_X2_needleAt_no (l : Launch) (hfl : l.stackTraces = false) {cyN : ClassId} (D : va_G) (tys : List (ClassId × FieldType)) (ad : Nat → Nat) (L : List Nat) (g : Nat → va_E) (ob arr : Nat) (made : Int32) (mvs : Int32) (twi : Int64) (tna : Int32) (fa : Nat → Option Nat) (x1 : Int32) (hL_ob : ob ∈ L) (hL_arr : arr ∈ L) (hg_ob : g ob = .inr (2, [.ref arr, .int made, .int mvs, .long twi, .int tna])) (hg_arr : g arr = .inl (cyN, 8, .inr (.inr (.inr (.inr fa))))) (htN : tys[2]? = some (cyN, .object RX1)) (hab : ¬ vp_in x1 8 ∨ fa x1.toNatClampNeg = none) :
    vx_Met l yX2_needleAt wsX2_needleAt ({ frames := 6, cells := 1, slots := 6, locals := 82 }) (PW D tys ad L g [.ref ob, .int x1]) (QR 1 none) (XW D tys ad L g 1) 1 6 (fun _ => False) := by
  refine vx_ofW (cc := cX2_needleAt) (maxL := 3) (ret := (some (.object "NeedleBoard$Needle"))) (by decide) rfl ?_
  intro p e s m args below meth c s₁ B hml hout hv
  obtain ⟨rfl, ⟨hP, hK, hD0, hKC0, hTC⟩, hXN⟩ := hv
  have hx := B.exec
  have hb := B.bytes
  have hr := B.returns
  have hts := atoms_spec (ws := wsX2_needleAt) B.pre
  have hown : s.vm.findClass RX2 = some m.cls := findClass_of_methodNamed B.named
  have hlocks := B.notSynchronized
  have hl := lv_entry ([.ref ob, .int x1]) (n := 3) (Nat.le_of_ble_eq_true rfl)
  rw [lg_entry_eq]
  generalize (lg_sl ([.ref ob, .int x1]) ++ List.replicate (3 - (lg_sl ([.ref ob, .int x1])).length) Slot.unset).toArray = ls at hl ⊢
  have hl : lv_has ls 3 [(0, .ref ob), (1, .int x1)] := hl
  have K23 : W p l e (headSpec wsX2_needleAt { frames := 6, cells := 1, slots := 6, locals := 82 }).room s m [Value.ref ob, Value.int x1].toArray below meth c s.heap [] 0 0 (vx_MQ below (QR 1 none) (XW D tys ad L g 1) [Value.ref ob, Value.int x1].toArray s 1 6 (fun _ => False)) (F0 m 23 ls [.null]) := by
    refine lv_astore_nN (lv' := [(2, .null), (0, .ref ob), (1, .int x1)]) hx hb dX2_needleAt_23 rfl hl (by decide) rfl (fun ls hl => ?_)
    refine lv_aload_nN hx hb dX2_needleAt_24 rfl (lv_at hl 0 rfl) ?_
    refine lv_ifnonnullN hx hb dX2_needleAt_25 ?_
    exact th_N (is := 163) (text := "there is no such needle") hx hb hfl hown (hts (.classLink RX2 161 "java/util/NoSuchElementException") (by decide +kernel)) (hts (.initialized "java/util/NoSuchElementException") (by decide +kernel)) (fun w hw => hts w (hgN_X2_needleAt w hw)) hXN (by decide +kernel) hP hK hD0 hKC0 hTC (hl.1.trans hml.symm) dX2_needleAt_28 dX2_needleAt_31 dX2_needleAt_32 dX2_needleAt_34 dX2_needleAt_37 hout (Nat.le_of_ble_eq_true rfl) (Nat.le_of_ble_eq_true rfl) (Nat.le_of_ble_eq_true rfl) (Nat.le_of_ble_eq_true rfl) hlocks rfl (Nat.le_of_ble_eq_true rfl) (Nat.le_of_ble_eq_true rfl)
  refine lv_iload_n hx hb dX2_needleAt_0 rfl (lv_at hl 1 rfl) ?_
  refine lv_if_lt (tgt := 13) hx hb dX2_needleAt_1 (by decide) (fun c_1 => ?_) (fun c_1 => ?_)
  · refine lv_null hx hb dX2_needleAt_13 ?_
    refine lv_goto (tgt := 23) hx hb dX2_needleAt_14 (by decide) ?_
    exact K23
  · refine lv_iload_n hx hb dX2_needleAt_4 rfl (lv_at hl 1 rfl) ?_
    refine lv_aload_n hx hb dX2_needleAt_5 rfl (lv_at hl 0 rfl) ?_
    refine pg_get hx hb hts hin_X2_X2_needleAt hown hK hP hL_ob hg_ob rfl 0 (by decide) (hts (.fieldLink RX2 11 "NeedleBoard" "needles" "[LNeedleBoard$Needle;") (by decide +kernel)) rfl dX2_needleAt_6 ?_
    refine pg_alen (v := 8) hx hb hK hP 2 hL_arr hg_arr htN rfl dX2_needleAt_9 ?_
    refine lv_icmp_lt (tgt := 17) hx hb dX2_needleAt_10 (by decide) (fun c_2 => ?_) (fun c_2 => ?_)
    · have hia := in8_of c_1 c_2
      have hfa := hab.resolve_left (fun h => h hia)
      refine lv_aload_n hx hb dX2_needleAt_17 rfl (lv_at hl 0 rfl) ?_
      refine pg_get hx hb hts hin_X2_X2_needleAt hown hK hP hL_ob hg_ob rfl 0 (by decide) (hts (.fieldLink RX2 11 "NeedleBoard" "needles" "[LNeedleBoard$Needle;") (by decide +kernel)) rfl dX2_needleAt_18 ?_
      refine lv_iload_n hx hb dX2_needleAt_21 rfl (lv_at hl 1 rfl) ?_
      refine pg_aald hx hb hK hP 2 hL_arr hg_arr htN hia dX2_needleAt_22 ?_
      rw [hfa]
      exact K23
    · refine lv_null hx hb dX2_needleAt_13 ?_
      refine lv_goto (tgt := 23) hx hb dX2_needleAt_14 (by decide) ?_
      exact K23
