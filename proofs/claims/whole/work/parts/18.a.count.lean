/-! counting -/
/-- the fields of needle k, as the model's cells tell them -/
def ndC (ad : Nat → Nat) (kd : Nat → Nat) (cv : Nat → Int64) (k : Nat) : List Value := [.ref (ad (kd k)), .long (cv (7 * k + 0)), .long (cv (7 * k + 1)), .long (cv (7 * k + 2)), .long (cv (7 * k + 3)), .long (cv (7 * k + 4)), .long (cv (7 * k + 5)), .long (cv (7 * k + 6))]
def cntN (kd : Nat → Nat) (cv : Nat → Int64) (x1 : Int32) : Nat → Nat
  | 0 => 0
  | n + 1 => if fX1_isCounted (kd n) (cv (7 * n + 0)) (cv (7 * n + 1)) (cv (7 * n + 2)) (cv (7 * n + 3)) (cv (7 * n + 4)) (cv (7 * n + 5)) (cv (7 * n + 6)) x1 = 0 then cntN kd cv x1 n else cntN kd cv x1 n + 1
theorem hd_X2_countNeedles : yX2_countNeedles.cls = RX2 ∧ yX2_countNeedles.cls ≠ "java/lang/invoke/MethodHandle" ∧ yX2_countNeedles.cls ≠ "java/lang/invoke/VarHandle" ∧ (parseMethodDescriptor yX2_countNeedles.desc).map (fun d => d.parameters.length) = some 1 := by decide +kernel
theorem hin_X2_X2_countNeedles : ∀ w ∈ wsX20, w ∈ wsX2_countNeedles := by decide +kernel
set_option maxHeartbeats 1000000 in
set_option maxRecDepth 100000 in
theorem c_X2_countNeedles (l : Launch) {cyN : ClassId} (D : va_G) (tys : List (ClassId × FieldType)) (ad : Nat → Nat) (L : List Nat) (g : Nat → va_E) (ob arr : Nat) (made : Int32) (mvs : Int32) (twi : Int64) (tna : Int32) (fa : Nat → Option Nat) (na kd : Nat → Nat) (cv : Nat → Int64) (N : Nat) (x1 : Int32) (hN : N ≤ 8) (hL_ob : ob ∈ L) (hL_arr : arr ∈ L) (hg_ob : g ob = .inr (2, [.ref arr, .int made, .int mvs, .long twi, .int tna])) (hg_arr : g arr = .inl (cyN, 8, .inr (.inr (.inr (.inr fa))))) (htN : tys[2]? = some (cyN, .object RX1))
    (hf1 : ∀ k, k < N → fa k = some (na k) ∧ na k ∈ L ∧ g (na k) = .inr (1, ndC ad kd cv k) ∧ kd k < 2) (hf0 : ∀ k, N ≤ k → k < 8 → fa k = none) :
    Met l yX2_countNeedles wsX2_countNeedles ({ frames := 2, cells := 0, slots := 0, locals := 50 }) (PW D tys ad L g [.ref ob, .int x1]) (k2_QcV (.int (nI (cntN kd cv x1 N)))) 0 0 (fun _ => False) := by
  refine Met.ofW (cc := cX2_countNeedles) (maxL := 7) (ret := (some .int)) (by decide) rfl ?_
  intro p e s m args below meth c s₁ B hml hv
  obtain ⟨rfl, ⟨hP, hK, hD0, hKC0, hTC⟩, hXN⟩ := hv
  have hD : va_D (fun q => q ∈ L) (va_pl L g) := we_D (fun _ h => h) hD0
  have hS : va_S (fun q => q ∈ L) s.heap s.heap [] := va_S.rf
  have hx := B.exec
  have hb := B.bytes
  have hr := B.returns
  have hts := atoms_spec (ws := wsX2_countNeedles) B.pre
  have hown : s.vm.findClass RX2 = some m.cls := findClass_of_methodNamed B.named
  have hl := lv_entry ([.ref ob, .int x1]) (n := 7) (Nat.le_of_ble_eq_true rfl)
  rw [lg_entry_eq]
  generalize (lg_sl ([.ref ob, .int x1]) ++ List.replicate (7 - (lg_sl ([.ref ob, .int x1])).length) Slot.unset).toArray = ls at hl ⊢
  have hl : lv_has ls 7 [(0, .ref ob), (1, .int x1)] := hl
  suffices loop : ∀ (n k : Nat) (ls : Array Slot) (a : Int32), k + n = 8 → a = nI (cntN kd cv x1 (min k N)) → lv_has ls 7 [(5, .int (nI k)), (2, .int a), (4, .int 8), (3, .ref arr), (1, .int x1)] → W p l e (headSpec wsX2_countNeedles { frames := 2, cells := 0, slots := 0, locals := 50 }).room s m #[.ref ob, .int x1] below meth c s.heap [] 0 0 (MQ below (k2_QcV (.int (nI (cntN kd cv x1 N)))) #[.ref ob, .int x1] s 0 0 (fun _ => False)) (F0 m 14 ls []) by
    refine lv_iconst (v := 0) hx hb dX2_countNeedles_0 (by decide) ?_
    refine lv_istore_n (lv' := [(2, .int 0), (0, .ref ob), (1, .int x1)]) hx hb dX2_countNeedles_1 rfl hl (by decide) rfl (fun ls hl => ?_)
    refine lv_aload_n hx hb dX2_countNeedles_2 rfl (lv_at hl 1 rfl) ?_
    refine pg_get hx hb hts hin_X2_X2_countNeedles hown hK hP hL_ob hg_ob rfl 0 (by decide) (hts (.fieldLink RX2 11 "NeedleBoard" "needles" "[LNeedleBoard$Needle;") (by decide +kernel)) rfl dX2_countNeedles_3 ?_
    refine lv_astore_n (lv' := [(3, .ref arr), (2, .int 0), (0, .ref ob), (1, .int x1)]) hx hb dX2_countNeedles_6 rfl hl (by decide) rfl (fun ls hl => ?_)
    refine lv_aload_n hx hb dX2_countNeedles_7 rfl (lv_at hl 0 rfl) ?_
    refine pg_alen (v := 8) hx hb hK hP 2 hL_arr hg_arr htN rfl dX2_countNeedles_8 ?_
    refine lv_istore (lv' := [(4, .int 8), (3, .ref arr), (2, .int 0), (0, .ref ob), (1, .int x1)]) hx hb dX2_countNeedles_9 hl (by decide) rfl (fun ls hl => ?_)
    refine lv_iconst (v := 0) hx hb dX2_countNeedles_11 (by decide) ?_
    refine lv_istore (lv' := [(5, .int 0), (4, .int 8), (3, .ref arr), (2, .int 0), (0, .ref ob), (1, .int x1)]) hx hb dX2_countNeedles_12 hl (by decide) rfl (fun ls hl => ?_)
    exact loop 8 0 ls 0 rfl (by rw [Nat.zero_min]; rfl) (lv_sub hl [0, 3, 1, 2, 5] rfl)
  intro n
  induction n with
  | zero =>
    intro k ls a hk ha hl
    have hk : k = 8 := by omega
    subst hk
    refine lv_iload hx hb dX2_countNeedles_14 (lv_at hl 0 rfl) ?_
    refine lv_iload hx hb dX2_countNeedles_16 (lv_at hl 2 rfl) ?_
    refine lv_icmp_ge (tgt := 50) hx hb dX2_countNeedles_18 (by decide) (fun c_1 => ?_) (fun c_1 => ?_)
    · refine lv_iload_n hx hb dX2_countNeedles_50 rfl (lv_at hl 1 rfl) ?_
      exact W.iret hx hb hr (fun t ht _ => ⟨congrArg (fun z => Outcome.returned (some (Value.int z))) (by rw [ha, Nat.min_eq_right hN]), ht⟩) (fun _ h => nomatch h) dX2_countNeedles_51
    · exact absurd (by decide) c_1
  | succ n ih =>
    intro k ls a hk ha hl
    have hkk : (nI k).toNatClampNeg = k := nI_clamp (by omega)
    refine lv_iload hx hb dX2_countNeedles_14 (lv_at hl 0 rfl) ?_
    refine lv_iload hx hb dX2_countNeedles_16 (lv_at hl 2 rfl) ?_
    refine lv_icmp_ge (tgt := 50) hx hb dX2_countNeedles_18 (by decide) (fun c_1 => ?_) (fun c_1 => ?_)
    · exact absurd c_1 (nI_ge (a := k) (b := 8) (by omega) (by decide))
    refine lv_aload_n hx hb dX2_countNeedles_21 rfl (lv_at hl 3 rfl) ?_
    refine lv_iload hx hb dX2_countNeedles_22 (lv_at hl 0 rfl) ?_
    refine pg_aald hx hb hK hP 2 hL_arr hg_arr htN (nI_in (by omega) (by decide)) dX2_countNeedles_24 ?_
    rw [hkk]
    rcases Nat.lt_or_ge k N with hkN | hkN
    · obtain ⟨e1, hL_nd, hg_nd, hi⟩ := hf1 k hkN
      have em : min k N = k := Nat.min_eq_left (Nat.le_of_lt hkN)
      have em1 : min (k + 1) N = k + 1 := Nat.min_eq_left hkN
      refine W.eq (g2 := F0 m 25 ls [.ref (na k)]) (by rw [e1]; rfl) ?_
      refine lv_astore (lv' := [(6, .ref (na k)), (5, .int (nI k)), (2, .int a), (4, .int 8), (3, .ref arr), (1, .int x1)]) hx hb dX2_countNeedles_25 hl (by decide) rfl (fun ls hl => ?_)
      refine lv_aload hx hb dX2_countNeedles_27 (lv_at hl 0 rfl) ?_
      refine lv_ifnull hx hb dX2_countNeedles_29 ?_
      refine lv_aload hx hb dX2_countNeedles_32 (lv_at hl 0 rfl) ?_
      refine lv_iload_n hx hb dX2_countNeedles_34 rfl (lv_at hl 5 rfl) ?_
      refine rc_V (b := na k) (r := .int (fX1_isCounted (kd k) (cv (7 * k + 0)) (cv (7 * k + 1)) (cv (7 * k + 2)) (cv (7 * k + 3)) (cv (7 * k + 4)) (cv (7 * k + 5)) (cv (7 * k + 6)) x1)) (As := [.int x1]) (rest := []) ⟨hx, hb, hml, hown, hts⟩ (c_X1_isCounted l D tys ad L g (na k) (kd k) (cv (7 * k + 0)) (cv (7 * k + 1)) (cv (7 * k + 2)) (cv (7 * k + 3)) (cv (7 * k + 4)) (cv (7 * k + 5)) (cv (7 * k + 6)) x1 hi hL_nd hg_nd) (cwV 1 hts gX2_countNeedles_X1_isCounted rfl rfl rfl hd_X1_isCounted ⟨(Nat.le_of_ble_eq_true rfl), (Nat.le_of_ble_eq_true rfl)⟩) (pg_recv hK hP hL_nd hg_nd rfl) (fun U hU hvm => WM hP hK hD hKC0 hTC hS hU hvm) hXN rfl hl.1 rfl (lv_room (Nat.le_of_ble_eq_true rfl)) dX2_countNeedles_35 ⟨(Nat.le_of_ble_eq_true rfl), (Nat.le_of_ble_eq_true rfl)⟩ ?_
      refine lv_if_eq (tgt := 44) hx hb dX2_countNeedles_38 (by decide) (fun c_2 => ?_) (fun c_2 => ?_)
      · refine lv_iinc (v := nI (k + 1)) (lv' := [(5, .int (nI (k + 1))), (6, .ref (na k)), (2, .int a), (4, .int 8), (3, .ref arr), (1, .int x1)]) hx hb dX2_countNeedles_44 hl (k := 1) rfl (nI_1 k) (by decide) rfl (fun ls hl => ?_)
        refine lv_goto (tgt := 14) hx hb dX2_countNeedles_47 (by decide) ?_
        exact ih (k + 1) ls a (by omega) (by rw [ha, em, em1, cntN, if_pos c_2]) (lv_sub hl [0, 2, 3, 4, 5] rfl)
      · refine lv_iinc (v := a + 1) (lv' := [(2, .int (a + 1)), (6, .ref (na k)), (5, .int (nI k)), (4, .int 8), (3, .ref arr), (1, .int x1)]) hx hb dX2_countNeedles_41 hl (k := 2) rfl rfl (by decide) rfl (fun ls hl => ?_)
        refine lv_iinc (v := nI (k + 1)) (lv' := [(5, .int (nI (k + 1))), (2, .int (a + 1)), (6, .ref (na k)), (4, .int 8), (3, .ref arr), (1, .int x1)]) hx hb dX2_countNeedles_44 hl (k := 2) rfl (nI_1 k) (by decide) rfl (fun ls hl => ?_)
        refine lv_goto (tgt := 14) hx hb dX2_countNeedles_47 (by decide) ?_
        exact ih (k + 1) ls (a + 1) (by omega) (by rw [ha, em, em1, cntN, if_neg c_2]; exact nI_1 _) (lv_sub hl [0, 1, 3, 4, 5] rfl)
    · have e1 := hf0 k hkN (by omega)
      refine W.eq (g2 := F0 m 25 ls [.null]) (by rw [e1]; rfl) ?_
      refine lv_astoreN (lv' := [(6, .null), (5, .int (nI k)), (2, .int a), (4, .int 8), (3, .ref arr), (1, .int x1)]) hx hb dX2_countNeedles_25 hl (by decide) rfl (fun ls hl => ?_)
      refine lv_aloadN hx hb dX2_countNeedles_27 (lv_at hl 0 rfl) ?_
      refine lv_ifnullN (tgt := 44) hx hb dX2_countNeedles_29 (by decide) ?_
      refine lv_iinc (v := nI (k + 1)) (lv' := [(5, .int (nI (k + 1))), (6, .null), (2, .int a), (4, .int 8), (3, .ref arr), (1, .int x1)]) hx hb dX2_countNeedles_44 hl (k := 1) rfl (nI_1 k) (by decide) rfl (fun ls hl => ?_)
      refine lv_goto (tgt := 14) hx hb dX2_countNeedles_47 (by decide) ?_
      exact ih (k + 1) ls a (by omega) (by rw [ha, Nat.min_eq_right hkN, Nat.min_eq_right (Nat.le_succ_of_le hkN)]) (lv_sub hl [0, 2, 3, 4, 5] rfl)
def fX2_count (made mvs : Int32) (n : Nat) (x1 : Int32) : Int32 :=
  if x1 = 0 then made else if x1 = 1 then nI n else if x1 = 2 then nI n else if x1 = 3 then nI n else if x1 = 4 then mvs else -1
theorem hd_X2_count : yX2_count.cls = RX2 ∧ yX2_count.cls ≠ "java/lang/invoke/MethodHandle" ∧ yX2_count.cls ≠ "java/lang/invoke/VarHandle" ∧ (parseMethodDescriptor yX2_count.desc).map (fun d => d.parameters.length) = some 1 := by decide +kernel
theorem hin_X2_X2_count : ∀ w ∈ wsX20, w ∈ wsX2_count := by decide +kernel
set_option maxHeartbeats 1000000 in
set_option maxRecDepth 100000 in
theorem c_X2_count (l : Launch) {cyN : ClassId} (D : va_G) (tys : List (ClassId × FieldType)) (ad : Nat → Nat) (L : List Nat) (g : Nat → va_E) (ob arr : Nat) (made : Int32) (mvs : Int32) (twi : Int64) (tna : Int32) (fa : Nat → Option Nat) (na kd : Nat → Nat) (cv : Nat → Int64) (N : Nat) (x1 : Int32) (hN : N ≤ 8) (hL_ob : ob ∈ L) (hL_arr : arr ∈ L) (hg_ob : g ob = .inr (2, [.ref arr, .int made, .int mvs, .long twi, .int tna])) (hg_arr : g arr = .inl (cyN, 8, .inr (.inr (.inr (.inr fa))))) (htN : tys[2]? = some (cyN, .object RX1))
    (hf1 : ∀ k, k < N → fa k = some (na k) ∧ na k ∈ L ∧ g (na k) = .inr (1, ndC ad kd cv k) ∧ kd k < 2) (hf0 : ∀ k, N ≤ k → k < 8 → fa k = none) :
    Met l yX2_count wsX2_count ({ frames := 3, cells := 0, slots := 0, locals := 80 }) (PW D tys ad L g [.ref ob, .int x1]) (k2_QcV (.int (fX2_count made mvs (cntN kd cv x1 N) x1))) 0 0 (fun _ => False) := by
  refine Met.ofW (cc := cX2_count) (maxL := 2) (ret := (some .int)) (by decide) rfl ?_
  intro p e s m args below meth c s₁ B hml hv
  obtain ⟨rfl, ⟨hP, hK, hD0, hKC0, hTC⟩, hXN⟩ := hv
  have hD : va_D (fun q => q ∈ L) (va_pl L g) := we_D (fun _ h => h) hD0
  have hS : va_S (fun q => q ∈ L) s.heap s.heap [] := va_S.rf
  have hx := B.exec
  have hb := B.bytes
  have hr := B.returns
  have hts := atoms_spec (ws := wsX2_count) B.pre
  have hown : s.vm.findClass RX2 = some m.cls := findClass_of_methodNamed B.named
  have hl := lv_entry ([.ref ob, .int x1]) (n := 2) (Nat.le_of_ble_eq_true rfl)
  rw [lg_entry_eq]
  generalize (lg_sl ([.ref ob, .int x1]) ++ List.replicate (2 - (lg_sl ([.ref ob, .int x1])).length) Slot.unset).toArray = ls at hl ⊢
  have hl : lv_has ls 2 [(0, .ref ob), (1, .int x1)] := hl
  have hcall : ∀ v : Int32, v = nI (cntN kd cv x1 N) → fX2_count made mvs (cntN kd cv x1 N) x1 = v → W p l e (headSpec wsX2_count { frames := 3, cells := 0, slots := 0, locals := 80 }).room s m #[.ref ob, .int x1] below meth c s.heap [] 0 0 (MQ below (k2_QcV (.int (fX2_count made mvs (cntN kd cv x1 N) x1))) #[.ref ob, .int x1] s 0 0 (fun _ => False)) (F0 m 41 ls []) := by
    intro v hv hF
    refine lv_aload_n hx hb dX2_count_41 rfl (lv_at hl 0 rfl) ?_
    refine lv_iload_n hx hb dX2_count_42 rfl (lv_at hl 1 rfl) ?_
    refine rc_V (b := ob) (r := .int (nI (cntN kd cv x1 N))) (As := [.int x1]) (rest := []) ⟨hx, hb, hml, hown, hts⟩ (c_X2_countNeedles l D tys ad L g ob arr made mvs twi tna fa na kd cv N x1 hN hL_ob hL_arr hg_ob hg_arr htN hf1 hf0) (cwV 1 hts gX2_count_X2_countNeedles rfl rfl rfl hd_X2_countNeedles ⟨(Nat.le_of_ble_eq_true rfl), (Nat.le_of_ble_eq_true rfl)⟩) (pg_recv hK hP hL_ob hg_ob rfl) (fun U hU hvm => WM hP hK hD hKC0 hTC hS hU hvm) hXN rfl hl.1 rfl (lv_room (Nat.le_of_ble_eq_true rfl)) dX2_count_43 ⟨(Nat.le_of_ble_eq_true rfl), (Nat.le_of_ble_eq_true rfl)⟩ ?_
    exact W.iret hx hb hr (fun t ht _ => ⟨congrArg (fun z => Outcome.returned (some (Value.int z))) (by rw [hF, hv]), ht⟩) (fun _ h => nomatch h) dX2_count_46
  refine lv_iload_n hx hb dX2_count_0 rfl (lv_at hl 1 rfl) ?_
  by_cases c_1 : x1 = 0
  · refine lv_tableIn (tgt := 36) (off := 35) hx hb dX2_count_1 (by rw [c_1]; decide) (by rw [c_1]; decide) (by rw [c_1]; rfl) (by decide) ?_
    refine lv_aload_n hx hb dX2_count_36 rfl (lv_at hl 0 rfl) ?_
    refine pg_get hx hb hts hin_X2_X2_count hown hK hP hL_ob hg_ob rfl 1 (by decide) (hts (.fieldLink RX2 39 "NeedleBoard" "made" "I") (by decide +kernel)) rfl dX2_count_37 ?_
    exact W.iret hx hb hr (fun t ht _ => ⟨congrArg (fun z => Outcome.returned (some (Value.int z))) (by unfold fX2_count; rw [if_pos c_1]), ht⟩) (fun _ h => nomatch h) dX2_count_40
  by_cases c_2 : x1 = 1
  · refine lv_tableIn (tgt := 41) (off := 40) hx hb dX2_count_1 (by rw [c_2]; decide) (by rw [c_2]; decide) (by rw [c_2]; rfl) (by decide) ?_
    exact hcall _ rfl (by unfold fX2_count; rw [if_neg c_1, if_pos c_2])
  by_cases c_3 : x1 = 2
  · refine lv_tableIn (tgt := 41) (off := 40) hx hb dX2_count_1 (by rw [c_3]; decide) (by rw [c_3]; decide) (by rw [c_3]; rfl) (by decide) ?_
    exact hcall _ rfl (by unfold fX2_count; rw [if_neg c_1, if_neg c_2, if_pos c_3])
  by_cases c_4 : x1 = 3
  · refine lv_tableIn (tgt := 41) (off := 40) hx hb dX2_count_1 (by rw [c_4]; decide) (by rw [c_4]; decide) (by rw [c_4]; rfl) (by decide) ?_
    exact hcall _ rfl (by unfold fX2_count; rw [if_neg c_1, if_neg c_2, if_neg c_3, if_pos c_4])
  by_cases c_5 : x1 = 4
  · refine lv_tableIn (tgt := 47) (off := 46) hx hb dX2_count_1 (by rw [c_5]; decide) (by rw [c_5]; decide) (by rw [c_5]; rfl) (by decide) ?_
    refine lv_aload_n hx hb dX2_count_47 rfl (lv_at hl 0 rfl) ?_
    refine pg_get hx hb hts hin_X2_X2_count hown hK hP hL_ob hg_ob rfl 2 (by decide) (hts (.fieldLink RX2 62 "NeedleBoard" "moves" "I") (by decide +kernel)) rfl dX2_count_48 ?_
    exact W.iret hx hb hr (fun t ht _ => ⟨congrArg (fun z => Outcome.returned (some (Value.int z))) (by unfold fX2_count; rw [if_neg c_1, if_neg c_2, if_neg c_3, if_neg c_4, if_pos c_5]), ht⟩) (fun _ h => nomatch h) dX2_count_51
  refine lv_tableOut (tgt := 52) hx hb dX2_count_1 (by have h0 := lv_neT c_1 (a := 0) rfl; have h1 := lv_neT c_2 (a := 1) rfl; have h2 := lv_neT c_3 (a := 2) rfl; have h3 := lv_neT c_4 (a := 3) rfl; have h4 := lv_neT c_5 (a := 4) rfl; omega) (by decide) ?_
  refine lv_iconst (v := -1) hx hb dX2_count_52 (by decide) ?_
  exact W.iret hx hb hr (fun t ht _ => ⟨congrArg (fun z => Outcome.returned (some (Value.int z))) (by unfold fX2_count; rw [if_neg c_1, if_neg c_2, if_neg c_3, if_neg c_4, if_neg c_5]), ht⟩) (fun _ h => nomatch h) dX2_count_53
