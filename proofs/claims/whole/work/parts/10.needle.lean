def fX1_withinLimits (i : Nat) (nlo : Int64) (nhi : Int64) (nv : Int64) (nst : Int64) (nhs : Int64) (nls : Int64) (ngs : Int64) (x1 : Int64) : Int64 :=
  fX0_lesserOf i (fX0_greaterOf i x1 nlo) nhi
theorem hd_X1_withinLimits : yX1_withinLimits.cls = RX1 ∧ yX1_withinLimits.cls ≠ "java/lang/invoke/MethodHandle" ∧ yX1_withinLimits.cls ≠ "java/lang/invoke/VarHandle" ∧ (parseMethodDescriptor yX1_withinLimits.desc).map (fun d => d.parameters.length) = some 1 := by decide +kernel
theorem hin_X1_X1_withinLimits : ∀ w ∈ wsX10, w ∈ wsX1_withinLimits := by decide +kernel
set_option maxHeartbeats 1000000 in
set_option maxRecDepth 100000 in
theorem c_X1_withinLimits (l : Launch) (D : va_G) (tys : List (ClassId × FieldType)) (ad : Nat → Nat) (L : List Nat) (g : Nat → va_E) (nd : Nat) (i : Nat) (nlo : Int64) (nhi : Int64) (nv : Int64) (nst : Int64) (nhs : Int64) (nls : Int64) (ngs : Int64) (x1 : Int64) (hi : i < 2) (hL_nd : nd ∈ L) (hg_nd : g nd = .inr (1, [.ref (ad i), .long nlo, .long nhi, .long nv, .long nst, .long nhs, .long nls, .long ngs])) : Met l yX1_withinLimits wsX1_withinLimits ({ frames := 3, cells := 0, slots := 0, locals := 70 }) (PW D tys ad L g [.ref nd, .long x1]) (k2_QcV (.long (fX1_withinLimits i nlo nhi nv nst nhs nls ngs x1))) 0 0 (fun _ => False) := by
  refine Met.ofW (cc := cX1_withinLimits) (maxL := 3) (ret := (some .long)) (by decide) rfl ?_
  intro p e s m args below meth c s₁ B hml hv
  obtain ⟨rfl, ⟨hP, hK, hD0, hKC0, hTC⟩, hXN⟩ := hv
  have hP0 := hP
  have hD : va_D (fun q => q ∈ L) (va_pl L g) := we_D (fun _ h => h) hD0
  have hKC : KC ad (fun q => q ∈ L) s s.heap := hKC0.narrow (fun _ h => Or.inl h)
  have hS : va_S (fun q => q ∈ L) s.heap s.heap [] := va_S.rf
  have hx := B.exec
  have hb := B.bytes
  have hr := B.returns
  have hts := atoms_spec (ws := wsX1_withinLimits) B.pre
  have hown : s.vm.findClass RX1 = some m.cls := findClass_of_methodNamed B.named
  have hlocks := B.notSynchronized
  have hl := lv_entry ([.ref nd, .long x1]) (n := 3) (Nat.le_of_ble_eq_true rfl)
  rw [lg_entry_eq]
  generalize (lg_sl ([.ref nd, .long x1]) ++ List.replicate (3 - (lg_sl ([.ref nd, .long x1])).length) Slot.unset).toArray = ls at hl ⊢
  have hl : lv_has ls 3 [(0, .ref nd), (1, .long x1)] := hl
  refine lv_aload_n hx hb dX1_withinLimits_0 rfl (lv_at hl 0 rfl) ?_
  refine pg_get hx hb hts hin_X1_X1_withinLimits hown hK hP hL_nd hg_nd rfl 0 (by decide) (hts (.fieldLink RX1 7 "NeedleBoard$Needle" "kind" "LNeedleBoard$Kind;") (by decide +kernel)) rfl dX1_withinLimits_1 ?_
  refine lv_aload_n hx hb dX1_withinLimits_4 rfl (lv_at hl 0 rfl) ?_
  refine pg_get hx hb hts hin_X1_X1_withinLimits hown hK hP hL_nd hg_nd rfl 0 (by decide) (hts (.fieldLink RX1 7 "NeedleBoard$Needle" "kind" "LNeedleBoard$Kind;") (by decide +kernel)) rfl dX1_withinLimits_5 ?_
  refine lv_lload_n hx hb dX1_withinLimits_8 rfl (lv_at hl 1 rfl) ?_
  refine lv_aload_n hx hb dX1_withinLimits_9 rfl (lv_at hl 0 rfl) ?_
  refine pg_get hx hb hts hin_X1_X1_withinLimits hown hK hP hL_nd hg_nd rfl 1 (by decide) (hts (.fieldLink RX1 13 "NeedleBoard$Needle" "low" "J") (by decide +kernel)) rfl dX1_withinLimits_10 ?_
  refine pc_V (i := i) (As := [.long x1, .long nlo]) (rest := [.ref (ad i)]) (r := .long (fX0_greaterOf i x1 nlo)) ⟨hx, hb, hml, hown, hts⟩ (c_X0_greaterOf l ad i hi x1 nlo) (cwV 2 hts gX1_withinLimits_X0_greaterOf rfl rfl rfl hd_X0_greaterOf ⟨Nat.le_of_ble_eq_true rfl, Nat.le_of_ble_eq_true rfl⟩) hKC hS hi rfl hl.1 rfl (lv_room (Nat.le_of_ble_eq_true rfl)) dX1_withinLimits_13 ⟨Nat.le_of_ble_eq_true rfl, Nat.le_of_ble_eq_true rfl⟩ ?_
  refine lv_aload_n hx hb dX1_withinLimits_16 rfl (lv_at hl 0 rfl) ?_
  refine pg_get hx hb hts hin_X1_X1_withinLimits hown hK hP hL_nd hg_nd rfl 2 (by decide) (hts (.fieldLink RX1 17 "NeedleBoard$Needle" "high" "J") (by decide +kernel)) rfl dX1_withinLimits_17 ?_
  refine pc_V (i := i) (As := [.long (fX0_greaterOf i x1 nlo), .long nhi]) (rest := []) (r := .long (fX0_lesserOf i (fX0_greaterOf i x1 nlo) nhi)) ⟨hx, hb, hml, hown, hts⟩ (c_X0_lesserOf l ad i hi (fX0_greaterOf i x1 nlo) nhi) (cwV 2 hts gX1_withinLimits_X0_lesserOf rfl rfl rfl hd_X0_lesserOf ⟨Nat.le_of_ble_eq_true rfl, Nat.le_of_ble_eq_true rfl⟩) hKC hS hi rfl hl.1 rfl (lv_room (Nat.le_of_ble_eq_true rfl)) dX1_withinLimits_20 ⟨Nat.le_of_ble_eq_true rfl, Nat.le_of_ble_eq_true rfl⟩ ?_
  have hF : fX1_withinLimits i nlo nhi nv nst nhs nls ngs x1 = fX0_lesserOf i (fX0_greaterOf i x1 nlo) nhi := (by rfl)
  have hF0 := hF
  exact W.lret hx hb hr (fun t ht _ => ⟨congrArg (fun z => Outcome.returned (some (Value.long z))) hF0.symm, ht⟩) (fun _ h => nomatch h) dX1_withinLimits_23
def fX1_startAgain (i : Nat) (nlo : Int64) (nhi : Int64) (nv : Int64) (nst : Int64) (nhs : Int64) (nls : Int64) (ngs : Int64) : Int64 × Int64 × Int64 × Int64 :=
  (fX1_withinLimits i nlo nhi nv nst nhs nls ngs (0 : Int64), fX1_withinLimits i nlo nhi nv nst nhs nls ngs (0 : Int64), fX1_withinLimits i nlo nhi nv nst nhs nls ngs (0 : Int64), fX0_sizeOf i (fX1_withinLimits i nlo nhi nv nst nhs nls ngs (0 : Int64)))
theorem hd_X1_startAgain : yX1_startAgain.cls = RX1 ∧ yX1_startAgain.cls ≠ "java/lang/invoke/MethodHandle" ∧ yX1_startAgain.cls ≠ "java/lang/invoke/VarHandle" ∧ (parseMethodDescriptor yX1_startAgain.desc).map (fun d => d.parameters.length) = some 0 := by decide +kernel
theorem hin_X1_X1_startAgain : ∀ w ∈ wsX10, w ∈ wsX1_startAgain := by decide +kernel
set_option maxHeartbeats 1000000 in
set_option maxRecDepth 100000 in
theorem c_X1_startAgain (l : Launch) (D : va_G) (tys : List (ClassId × FieldType)) (ad : Nat → Nat) (L : List Nat) (g : Nat → va_E) (nd : Nat) (i : Nat) (nlo : Int64) (nhi : Int64) (nv : Int64) (nst : Int64) (nhs : Int64) (nls : Int64) (ngs : Int64) (hi : i < 2) (hL_nd : nd ∈ L) (hg_nd : g nd = .inr (1, [.ref (ad i), .long nlo, .long nhi, .long nv, .long nst, .long nhs, .long nls, .long ngs])) : Met l yX1_startAgain wsX1_startAgain ({ frames := 4, cells := 0, slots := 0, locals := 92 }) (PW D tys ad L g [.ref nd]) (QE D tys ad L none (fun g1 => g1 nd = .inr (1, [.ref (ad i), .long nlo, .long nhi, .long ((fX1_startAgain i nlo nhi nv nst nhs nls ngs).1), .long nst, .long ((fX1_startAgain i nlo nhi nv nst nhs nls ngs).2.1), .long ((fX1_startAgain i nlo nhi nv nst nhs nls ngs).2.2.1), .long ((fX1_startAgain i nlo nhi nv nst nhs nls ngs).2.2.2)]) ∧ ∀ q : Nat, q ≠ nd → g1 q = g q)) 0 0 (fun q => q ∈ L) := by
  refine Met.ofW (cc := cX1_startAgain) (maxL := 1) (ret := none) (by decide) rfl ?_
  intro p e s m args below meth c s₁ B hml hv
  obtain ⟨rfl, ⟨hP, hK, hD0, hKC0, hTC⟩, hXN⟩ := hv
  have hP0 := hP
  have hD : va_D (fun q => q ∈ L) (va_pl L g) := we_D (fun _ h => h) hD0
  have hKC : KC ad (fun q => q ∈ L) s s.heap := hKC0.narrow (fun _ h => Or.inl h)
  have hS : va_S (fun q => q ∈ L) s.heap s.heap [] := va_S.rf
  have hx := B.exec
  have hb := B.bytes
  have hr := B.returns
  have hts := atoms_spec (ws := wsX1_startAgain) B.pre
  have hown : s.vm.findClass RX1 = some m.cls := findClass_of_methodNamed B.named
  have hlocks := B.notSynchronized
  have hrs : ∀ q : Nat, q ≠ nd → g q = g q := fun q _ => rfl
  have hl := lv_entry ([.ref nd]) (n := 1) (Nat.le_of_ble_eq_true rfl)
  rw [lg_entry_eq]
  generalize (lg_sl ([.ref nd]) ++ List.replicate (1 - (lg_sl ([.ref nd])).length) Slot.unset).toArray = ls at hl ⊢
  have hl : lv_has ls 1 [(0, .ref nd)] := hl
  refine lv_aload_n hx hb dX1_startAgain_0 rfl (lv_at hl 0 rfl) ?_
  refine lv_aload_n hx hb dX1_startAgain_1 rfl (lv_at hl 0 rfl) ?_
  refine lv_lconst (v := 0) hx hb dX1_startAgain_2 (by decide) ?_
  refine rc_V (b := nd) (r := .long (fX1_withinLimits i nlo nhi nv nst nhs nls ngs (0 : Int64))) (As := [.long (0 : Int64)]) (rest := [.ref nd]) ⟨hx, hb, hml, hown, hts⟩ (c_X1_withinLimits l D tys ad L g  nd i nlo nhi nv nst nhs nls ngs (0 : Int64) hi hL_nd hg_nd) (cwV 1 hts gX1_startAgain_X1_withinLimits rfl rfl rfl hd_X1_withinLimits ⟨Nat.le_of_ble_eq_true rfl, Nat.le_of_ble_eq_true rfl⟩) (pg_recv hK hP hL_nd hg_nd rfl) (fun U hU hvm => WM hP hK hD hKC0 hTC hS hU hvm) hXN rfl hl.1 rfl (lv_room (Nat.le_of_ble_eq_true rfl)) dX1_startAgain_3 ⟨Nat.le_of_ble_eq_true rfl, Nat.le_of_ble_eq_true rfl⟩ ?_
  refine pg_put (ty := .long) hx hb hts hin_X1_X1_startAgain tyX1 tyX1_ok nmX1 hown hK hP hD hS hL_nd hg_nd rfl 3 (by decide) (hts (.fieldLink RX1 35 "NeedleBoard$Needle" "value" "J") (by decide +kernel)) rfl (by decide +kernel) rfl rfl (Nat.le_of_ble_eq_true rfl) dX1_startAgain_6 (fun H locs hP hD hS => ?_)
  obtain ⟨g1, eg1⟩ : ∃ z : Nat → va_E, z = va_up g nd (.inr (1, [.ref (ad i), .long nlo, .long nhi, .long (fX1_withinLimits i nlo nhi nv nst nhs nls ngs (0 : Int64)), .long nst, .long nhs, .long nls, .long ngs])) := ⟨_, rfl⟩
  have hP : va_P D vwCl (va_pl L g1) H := by rw [eg1]; exact hP
  have hD : va_D (fun q => q ∈ L) (va_pl L g1) := by rw [eg1]; exact hD
  have hg_nd : g1 nd = .inr (1, [.ref (ad i), .long nlo, .long nhi, .long (fX1_withinLimits i nlo nhi nv nst nhs nls ngs (0 : Int64)), .long nst, .long nhs, .long nls, .long ngs]) := by rw [eg1]; exact va_up_self _ _ _
  have hrs : ∀ q : Nat, q ≠ nd → g1 q = g q := fun q h_nd => (congrFun eg1 q).trans ((va_up_ne _ _ h_nd).trans (hrs q h_nd))
  refine lv_aload_n hx hb dX1_startAgain_9 rfl (lv_at hl 0 rfl) ?_
  refine lv_aload_n hx hb dX1_startAgain_10 rfl (lv_at hl 0 rfl) ?_
  refine pg_get hx hb hts hin_X1_X1_startAgain hown hK hP hL_nd hg_nd rfl 3 (by decide) (hts (.fieldLink RX1 35 "NeedleBoard$Needle" "value" "J") (by decide +kernel)) rfl dX1_startAgain_11 ?_
  refine pg_put (ty := .long) hx hb hts hin_X1_X1_startAgain tyX1 tyX1_ok nmX1 hown hK hP hD hS hL_nd hg_nd rfl 5 (by decide) (hts (.fieldLink RX1 38 "NeedleBoard$Needle" "highest" "J") (by decide +kernel)) rfl (by decide +kernel) rfl rfl (Nat.le_of_ble_eq_true rfl) dX1_startAgain_14 (fun H locs hP hD hS => ?_)
  obtain ⟨g2, eg2⟩ : ∃ z : Nat → va_E, z = va_up g1 nd (.inr (1, [.ref (ad i), .long nlo, .long nhi, .long (fX1_withinLimits i nlo nhi nv nst nhs nls ngs (0 : Int64)), .long nst, .long (fX1_withinLimits i nlo nhi nv nst nhs nls ngs (0 : Int64)), .long nls, .long ngs])) := ⟨_, rfl⟩
  have hP : va_P D vwCl (va_pl L g2) H := by rw [eg2]; exact hP
  have hD : va_D (fun q => q ∈ L) (va_pl L g2) := by rw [eg2]; exact hD
  have hg_nd : g2 nd = .inr (1, [.ref (ad i), .long nlo, .long nhi, .long (fX1_withinLimits i nlo nhi nv nst nhs nls ngs (0 : Int64)), .long nst, .long (fX1_withinLimits i nlo nhi nv nst nhs nls ngs (0 : Int64)), .long nls, .long ngs]) := by rw [eg2]; exact va_up_self _ _ _
  have hrs : ∀ q : Nat, q ≠ nd → g2 q = g q := fun q h_nd => (congrFun eg2 q).trans ((va_up_ne _ _ h_nd).trans (hrs q h_nd))
  refine lv_aload_n hx hb dX1_startAgain_17 rfl (lv_at hl 0 rfl) ?_
  refine lv_aload_n hx hb dX1_startAgain_18 rfl (lv_at hl 0 rfl) ?_
  refine pg_get hx hb hts hin_X1_X1_startAgain hown hK hP hL_nd hg_nd rfl 3 (by decide) (hts (.fieldLink RX1 35 "NeedleBoard$Needle" "value" "J") (by decide +kernel)) rfl dX1_startAgain_19 ?_
  refine pg_put (ty := .long) hx hb hts hin_X1_X1_startAgain tyX1 tyX1_ok nmX1 hown hK hP hD hS hL_nd hg_nd rfl 6 (by decide) (hts (.fieldLink RX1 41 "NeedleBoard$Needle" "lowest" "J") (by decide +kernel)) rfl (by decide +kernel) rfl rfl (Nat.le_of_ble_eq_true rfl) dX1_startAgain_22 (fun H locs hP hD hS => ?_)
  obtain ⟨g3, eg3⟩ : ∃ z : Nat → va_E, z = va_up g2 nd (.inr (1, [.ref (ad i), .long nlo, .long nhi, .long (fX1_withinLimits i nlo nhi nv nst nhs nls ngs (0 : Int64)), .long nst, .long (fX1_withinLimits i nlo nhi nv nst nhs nls ngs (0 : Int64)), .long (fX1_withinLimits i nlo nhi nv nst nhs nls ngs (0 : Int64)), .long ngs])) := ⟨_, rfl⟩
  have hP : va_P D vwCl (va_pl L g3) H := by rw [eg3]; exact hP
  have hD : va_D (fun q => q ∈ L) (va_pl L g3) := by rw [eg3]; exact hD
  have hg_nd : g3 nd = .inr (1, [.ref (ad i), .long nlo, .long nhi, .long (fX1_withinLimits i nlo nhi nv nst nhs nls ngs (0 : Int64)), .long nst, .long (fX1_withinLimits i nlo nhi nv nst nhs nls ngs (0 : Int64)), .long (fX1_withinLimits i nlo nhi nv nst nhs nls ngs (0 : Int64)), .long ngs]) := by rw [eg3]; exact va_up_self _ _ _
  have hrs : ∀ q : Nat, q ≠ nd → g3 q = g q := fun q h_nd => (congrFun eg3 q).trans ((va_up_ne _ _ h_nd).trans (hrs q h_nd))
  refine lv_aload_n hx hb dX1_startAgain_25 rfl (lv_at hl 0 rfl) ?_
  refine lv_aload_n hx hb dX1_startAgain_26 rfl (lv_at hl 0 rfl) ?_
  refine pg_get hx hb hts hin_X1_X1_startAgain hown hK hP hL_nd hg_nd rfl 0 (by decide) (hts (.fieldLink RX1 7 "NeedleBoard$Needle" "kind" "LNeedleBoard$Kind;") (by decide +kernel)) rfl dX1_startAgain_27 ?_
  refine lv_aload_n hx hb dX1_startAgain_30 rfl (lv_at hl 0 rfl) ?_
  refine pg_get hx hb hts hin_X1_X1_startAgain hown hK hP hL_nd hg_nd rfl 3 (by decide) (hts (.fieldLink RX1 35 "NeedleBoard$Needle" "value" "J") (by decide +kernel)) rfl dX1_startAgain_31 ?_
  refine pc_V (i := i) (As := [.long (fX1_withinLimits i nlo nhi nv nst nhs nls ngs (0 : Int64))]) (rest := [.ref nd]) (r := .long (fX0_sizeOf i (fX1_withinLimits i nlo nhi nv nst nhs nls ngs (0 : Int64)))) ⟨hx, hb, hml, hown, hts⟩ (c_X0_sizeOf l ad i hi (fX1_withinLimits i nlo nhi nv nst nhs nls ngs (0 : Int64))) (cwV 1 hts gX1_startAgain_X0_sizeOf rfl rfl rfl hd_X0_sizeOf ⟨Nat.le_of_ble_eq_true rfl, Nat.le_of_ble_eq_true rfl⟩) hKC hS hi rfl hl.1 rfl (lv_room (Nat.le_of_ble_eq_true rfl)) dX1_startAgain_34 ⟨Nat.le_of_ble_eq_true rfl, Nat.le_of_ble_eq_true rfl⟩ ?_
  refine pg_put (ty := .long) hx hb hts hin_X1_X1_startAgain tyX1 tyX1_ok nmX1 hown hK hP hD hS hL_nd hg_nd rfl 7 (by decide) (hts (.fieldLink RX1 47 "NeedleBoard$Needle" "greatestSize" "J") (by decide +kernel)) rfl (by decide +kernel) rfl rfl (Nat.le_of_ble_eq_true rfl) dX1_startAgain_37 (fun H locs hP hD hS => ?_)
  obtain ⟨g4, eg4⟩ : ∃ z : Nat → va_E, z = va_up g3 nd (.inr (1, [.ref (ad i), .long nlo, .long nhi, .long (fX1_withinLimits i nlo nhi nv nst nhs nls ngs (0 : Int64)), .long nst, .long (fX1_withinLimits i nlo nhi nv nst nhs nls ngs (0 : Int64)), .long (fX1_withinLimits i nlo nhi nv nst nhs nls ngs (0 : Int64)), .long (fX0_sizeOf i (fX1_withinLimits i nlo nhi nv nst nhs nls ngs (0 : Int64)))])) := ⟨_, rfl⟩
  have hP : va_P D vwCl (va_pl L g4) H := by rw [eg4]; exact hP
  have hD : va_D (fun q => q ∈ L) (va_pl L g4) := by rw [eg4]; exact hD
  have hg_nd : g4 nd = .inr (1, [.ref (ad i), .long nlo, .long nhi, .long (fX1_withinLimits i nlo nhi nv nst nhs nls ngs (0 : Int64)), .long nst, .long (fX1_withinLimits i nlo nhi nv nst nhs nls ngs (0 : Int64)), .long (fX1_withinLimits i nlo nhi nv nst nhs nls ngs (0 : Int64)), .long (fX0_sizeOf i (fX1_withinLimits i nlo nhi nv nst nhs nls ngs (0 : Int64)))]) := by rw [eg4]; exact va_up_self _ _ _
  have hrs : ∀ q : Nat, q ≠ nd → g4 q = g q := fun q h_nd => (congrFun eg4 q).trans ((va_up_ne _ _ h_nd).trans (hrs q h_nd))
  have hF : fX1_startAgain i nlo nhi nv nst nhs nls ngs = (fX1_withinLimits i nlo nhi nv nst nhs nls ngs (0 : Int64), fX1_withinLimits i nlo nhi nv nst nhs nls ngs (0 : Int64), fX1_withinLimits i nlo nhi nv nst nhs nls ngs (0 : Int64), fX0_sizeOf i (fX1_withinLimits i nlo nhi nv nst nhs nls ngs (0 : Int64))) := (by rfl)
  have hF0 : (fX1_startAgain i nlo nhi nv nst nhs nls ngs).1 = fX1_withinLimits i nlo nhi nv nst nhs nls ngs (0 : Int64) := by rw [hF]
  have hF1 : (fX1_startAgain i nlo nhi nv nst nhs nls ngs).2.1 = fX1_withinLimits i nlo nhi nv nst nhs nls ngs (0 : Int64) := by rw [hF]
  have hF2 : (fX1_startAgain i nlo nhi nv nst nhs nls ngs).2.2.1 = fX1_withinLimits i nlo nhi nv nst nhs nls ngs (0 : Int64) := by rw [hF]
  have hF3 : (fX1_startAgain i nlo nhi nv nst nhs nls ngs).2.2.2 = fX0_sizeOf i (fX1_withinLimits i nlo nhi nv nst nhs nls ngs (0 : Int64)) := by rw [hF]
  exact W.vret hx hb hr (fun t ht hW => ⟨rfl, ⟨g4, WM hP hK hD hKC0 hTC hS ht hW.alike, by rw [hF0, hF1, hF2, hF3]; exact ⟨hg_nd, hrs⟩⟩, hS.F ht⟩) (fun q h => hS.2.2 q h) dX1_startAgain_40
def fX1_moveTo (i : Nat) (nlo : Int64) (nhi : Int64) (nv : Int64) (nst : Int64) (nhs : Int64) (nls : Int64) (ngs : Int64) (x1 : Int64) : Int64 × Int64 × Int64 × Int64 :=
  (fX1_withinLimits i nlo nhi nv nst nhs nls ngs x1, fX0_greaterOf i nhs (fX1_withinLimits i nlo nhi nv nst nhs nls ngs x1), fX0_lesserOf i nls (fX1_withinLimits i nlo nhi nv nst nhs nls ngs x1), if (fX0_sizeOf i (fX1_withinLimits i nlo nhi nv nst nhs nls ngs x1)) < ngs then ngs else (fX0_sizeOf i (fX1_withinLimits i nlo nhi nv nst nhs nls ngs x1)))
theorem hd_X1_moveTo : yX1_moveTo.cls = RX1 ∧ yX1_moveTo.cls ≠ "java/lang/invoke/MethodHandle" ∧ yX1_moveTo.cls ≠ "java/lang/invoke/VarHandle" ∧ (parseMethodDescriptor yX1_moveTo.desc).map (fun d => d.parameters.length) = some 1 := by decide +kernel
theorem hin_X1_X1_moveTo : ∀ w ∈ wsX10, w ∈ wsX1_moveTo := by decide +kernel
set_option maxHeartbeats 1000000 in
set_option maxRecDepth 100000 in
theorem c_X1_moveTo (l : Launch) (D : va_G) (tys : List (ClassId × FieldType)) (ad : Nat → Nat) (L : List Nat) (g : Nat → va_E) (nd : Nat) (i : Nat) (nlo : Int64) (nhi : Int64) (nv : Int64) (nst : Int64) (nhs : Int64) (nls : Int64) (ngs : Int64) (x1 : Int64) (hi : i < 2) (hL_nd : nd ∈ L) (hg_nd : g nd = .inr (1, [.ref (ad i), .long nlo, .long nhi, .long nv, .long nst, .long nhs, .long nls, .long ngs])) : Met l yX1_moveTo wsX1_moveTo ({ frames := 4, cells := 0, slots := 0, locals := 92 }) (PW D tys ad L g [.ref nd, .long x1]) (QE D tys ad L none (fun g1 => g1 nd = .inr (1, [.ref (ad i), .long nlo, .long nhi, .long ((fX1_moveTo i nlo nhi nv nst nhs nls ngs x1).1), .long nst, .long ((fX1_moveTo i nlo nhi nv nst nhs nls ngs x1).2.1), .long ((fX1_moveTo i nlo nhi nv nst nhs nls ngs x1).2.2.1), .long ((fX1_moveTo i nlo nhi nv nst nhs nls ngs x1).2.2.2)]) ∧ ∀ q : Nat, q ≠ nd → g1 q = g q)) 0 0 (fun q => q ∈ L) := by
  refine Met.ofW (cc := cX1_moveTo) (maxL := 3) (ret := none) (by decide) rfl ?_
  intro p e s m args below meth c s₁ B hml hv
  obtain ⟨rfl, ⟨hP, hK, hD0, hKC0, hTC⟩, hXN⟩ := hv
  have hP0 := hP
  have hD : va_D (fun q => q ∈ L) (va_pl L g) := we_D (fun _ h => h) hD0
  have hKC : KC ad (fun q => q ∈ L) s s.heap := hKC0.narrow (fun _ h => Or.inl h)
  have hS : va_S (fun q => q ∈ L) s.heap s.heap [] := va_S.rf
  have hx := B.exec
  have hb := B.bytes
  have hr := B.returns
  have hts := atoms_spec (ws := wsX1_moveTo) B.pre
  have hown : s.vm.findClass RX1 = some m.cls := findClass_of_methodNamed B.named
  have hlocks := B.notSynchronized
  have hrs : ∀ q : Nat, q ≠ nd → g q = g q := fun q _ => rfl
  have hl := lv_entry ([.ref nd, .long x1]) (n := 3) (Nat.le_of_ble_eq_true rfl)
  rw [lg_entry_eq]
  generalize (lg_sl ([.ref nd, .long x1]) ++ List.replicate (3 - (lg_sl ([.ref nd, .long x1])).length) Slot.unset).toArray = ls at hl ⊢
  have hl : lv_has ls 3 [(0, .ref nd), (1, .long x1)] := hl
  refine lv_aload_n hx hb dX1_moveTo_0 rfl (lv_at hl 0 rfl) ?_
  refine lv_aload_n hx hb dX1_moveTo_1 rfl (lv_at hl 0 rfl) ?_
  refine lv_lload_n hx hb dX1_moveTo_2 rfl (lv_at hl 1 rfl) ?_
  refine rc_V (b := nd) (r := .long (fX1_withinLimits i nlo nhi nv nst nhs nls ngs x1)) (As := [.long x1]) (rest := [.ref nd]) ⟨hx, hb, hml, hown, hts⟩ (c_X1_withinLimits l D tys ad L g  nd i nlo nhi nv nst nhs nls ngs x1 hi hL_nd hg_nd) (cwV 1 hts gX1_moveTo_X1_withinLimits rfl rfl rfl hd_X1_withinLimits ⟨Nat.le_of_ble_eq_true rfl, Nat.le_of_ble_eq_true rfl⟩) (pg_recv hK hP hL_nd hg_nd rfl) (fun U hU hvm => WM hP hK hD hKC0 hTC hS hU hvm) hXN rfl hl.1 rfl (lv_room (Nat.le_of_ble_eq_true rfl)) dX1_moveTo_3 ⟨Nat.le_of_ble_eq_true rfl, Nat.le_of_ble_eq_true rfl⟩ ?_
  refine pg_put (ty := .long) hx hb hts hin_X1_X1_moveTo tyX1 tyX1_ok nmX1 hown hK hP hD hS hL_nd hg_nd rfl 3 (by decide) (hts (.fieldLink RX1 35 "NeedleBoard$Needle" "value" "J") (by decide +kernel)) rfl (by decide +kernel) rfl rfl (Nat.le_of_ble_eq_true rfl) dX1_moveTo_6 (fun H locs hP hD hS => ?_)
  obtain ⟨g1, eg1⟩ : ∃ z : Nat → va_E, z = va_up g nd (.inr (1, [.ref (ad i), .long nlo, .long nhi, .long (fX1_withinLimits i nlo nhi nv nst nhs nls ngs x1), .long nst, .long nhs, .long nls, .long ngs])) := ⟨_, rfl⟩
  have hP : va_P D vwCl (va_pl L g1) H := by rw [eg1]; exact hP
  have hD : va_D (fun q => q ∈ L) (va_pl L g1) := by rw [eg1]; exact hD
  have hg_nd : g1 nd = .inr (1, [.ref (ad i), .long nlo, .long nhi, .long (fX1_withinLimits i nlo nhi nv nst nhs nls ngs x1), .long nst, .long nhs, .long nls, .long ngs]) := by rw [eg1]; exact va_up_self _ _ _
  have hrs : ∀ q : Nat, q ≠ nd → g1 q = g q := fun q h_nd => (congrFun eg1 q).trans ((va_up_ne _ _ h_nd).trans (hrs q h_nd))
  refine lv_aload_n hx hb dX1_moveTo_9 rfl (lv_at hl 0 rfl) ?_
  refine lv_aload_n hx hb dX1_moveTo_10 rfl (lv_at hl 0 rfl) ?_
  refine pg_get hx hb hts hin_X1_X1_moveTo hown hK hP hL_nd hg_nd rfl 0 (by decide) (hts (.fieldLink RX1 7 "NeedleBoard$Needle" "kind" "LNeedleBoard$Kind;") (by decide +kernel)) rfl dX1_moveTo_11 ?_
  refine lv_aload_n hx hb dX1_moveTo_14 rfl (lv_at hl 0 rfl) ?_
  refine pg_get hx hb hts hin_X1_X1_moveTo hown hK hP hL_nd hg_nd rfl 5 (by decide) (hts (.fieldLink RX1 38 "NeedleBoard$Needle" "highest" "J") (by decide +kernel)) rfl dX1_moveTo_15 ?_
  refine lv_aload_n hx hb dX1_moveTo_18 rfl (lv_at hl 0 rfl) ?_
  refine pg_get hx hb hts hin_X1_X1_moveTo hown hK hP hL_nd hg_nd rfl 3 (by decide) (hts (.fieldLink RX1 35 "NeedleBoard$Needle" "value" "J") (by decide +kernel)) rfl dX1_moveTo_19 ?_
  refine pc_V (i := i) (As := [.long nhs, .long (fX1_withinLimits i nlo nhi nv nst nhs nls ngs x1)]) (rest := [.ref nd]) (r := .long (fX0_greaterOf i nhs (fX1_withinLimits i nlo nhi nv nst nhs nls ngs x1))) ⟨hx, hb, hml, hown, hts⟩ (c_X0_greaterOf l ad i hi nhs (fX1_withinLimits i nlo nhi nv nst nhs nls ngs x1)) (cwV 2 hts gX1_moveTo_X0_greaterOf rfl rfl rfl hd_X0_greaterOf ⟨Nat.le_of_ble_eq_true rfl, Nat.le_of_ble_eq_true rfl⟩) hKC hS hi rfl hl.1 rfl (lv_room (Nat.le_of_ble_eq_true rfl)) dX1_moveTo_22 ⟨Nat.le_of_ble_eq_true rfl, Nat.le_of_ble_eq_true rfl⟩ ?_
  refine pg_put (ty := .long) hx hb hts hin_X1_X1_moveTo tyX1 tyX1_ok nmX1 hown hK hP hD hS hL_nd hg_nd rfl 5 (by decide) (hts (.fieldLink RX1 38 "NeedleBoard$Needle" "highest" "J") (by decide +kernel)) rfl (by decide +kernel) rfl rfl (Nat.le_of_ble_eq_true rfl) dX1_moveTo_25 (fun H locs hP hD hS => ?_)
  obtain ⟨g2, eg2⟩ : ∃ z : Nat → va_E, z = va_up g1 nd (.inr (1, [.ref (ad i), .long nlo, .long nhi, .long (fX1_withinLimits i nlo nhi nv nst nhs nls ngs x1), .long nst, .long (fX0_greaterOf i nhs (fX1_withinLimits i nlo nhi nv nst nhs nls ngs x1)), .long nls, .long ngs])) := ⟨_, rfl⟩
  have hP : va_P D vwCl (va_pl L g2) H := by rw [eg2]; exact hP
  have hD : va_D (fun q => q ∈ L) (va_pl L g2) := by rw [eg2]; exact hD
  have hg_nd : g2 nd = .inr (1, [.ref (ad i), .long nlo, .long nhi, .long (fX1_withinLimits i nlo nhi nv nst nhs nls ngs x1), .long nst, .long (fX0_greaterOf i nhs (fX1_withinLimits i nlo nhi nv nst nhs nls ngs x1)), .long nls, .long ngs]) := by rw [eg2]; exact va_up_self _ _ _
  have hrs : ∀ q : Nat, q ≠ nd → g2 q = g q := fun q h_nd => (congrFun eg2 q).trans ((va_up_ne _ _ h_nd).trans (hrs q h_nd))
  refine lv_aload_n hx hb dX1_moveTo_28 rfl (lv_at hl 0 rfl) ?_
  refine lv_aload_n hx hb dX1_moveTo_29 rfl (lv_at hl 0 rfl) ?_
  refine pg_get hx hb hts hin_X1_X1_moveTo hown hK hP hL_nd hg_nd rfl 0 (by decide) (hts (.fieldLink RX1 7 "NeedleBoard$Needle" "kind" "LNeedleBoard$Kind;") (by decide +kernel)) rfl dX1_moveTo_30 ?_
  refine lv_aload_n hx hb dX1_moveTo_33 rfl (lv_at hl 0 rfl) ?_
  refine pg_get hx hb hts hin_X1_X1_moveTo hown hK hP hL_nd hg_nd rfl 6 (by decide) (hts (.fieldLink RX1 41 "NeedleBoard$Needle" "lowest" "J") (by decide +kernel)) rfl dX1_moveTo_34 ?_
  refine lv_aload_n hx hb dX1_moveTo_37 rfl (lv_at hl 0 rfl) ?_
  refine pg_get hx hb hts hin_X1_X1_moveTo hown hK hP hL_nd hg_nd rfl 3 (by decide) (hts (.fieldLink RX1 35 "NeedleBoard$Needle" "value" "J") (by decide +kernel)) rfl dX1_moveTo_38 ?_
  refine pc_V (i := i) (As := [.long nls, .long (fX1_withinLimits i nlo nhi nv nst nhs nls ngs x1)]) (rest := [.ref nd]) (r := .long (fX0_lesserOf i nls (fX1_withinLimits i nlo nhi nv nst nhs nls ngs x1))) ⟨hx, hb, hml, hown, hts⟩ (c_X0_lesserOf l ad i hi nls (fX1_withinLimits i nlo nhi nv nst nhs nls ngs x1)) (cwV 2 hts gX1_moveTo_X0_lesserOf rfl rfl rfl hd_X0_lesserOf ⟨Nat.le_of_ble_eq_true rfl, Nat.le_of_ble_eq_true rfl⟩) hKC hS hi rfl hl.1 rfl (lv_room (Nat.le_of_ble_eq_true rfl)) dX1_moveTo_41 ⟨Nat.le_of_ble_eq_true rfl, Nat.le_of_ble_eq_true rfl⟩ ?_
  refine pg_put (ty := .long) hx hb hts hin_X1_X1_moveTo tyX1 tyX1_ok nmX1 hown hK hP hD hS hL_nd hg_nd rfl 6 (by decide) (hts (.fieldLink RX1 41 "NeedleBoard$Needle" "lowest" "J") (by decide +kernel)) rfl (by decide +kernel) rfl rfl (Nat.le_of_ble_eq_true rfl) dX1_moveTo_44 (fun H locs hP hD hS => ?_)
  obtain ⟨g3, eg3⟩ : ∃ z : Nat → va_E, z = va_up g2 nd (.inr (1, [.ref (ad i), .long nlo, .long nhi, .long (fX1_withinLimits i nlo nhi nv nst nhs nls ngs x1), .long nst, .long (fX0_greaterOf i nhs (fX1_withinLimits i nlo nhi nv nst nhs nls ngs x1)), .long (fX0_lesserOf i nls (fX1_withinLimits i nlo nhi nv nst nhs nls ngs x1)), .long ngs])) := ⟨_, rfl⟩
  have hP : va_P D vwCl (va_pl L g3) H := by rw [eg3]; exact hP
  have hD : va_D (fun q => q ∈ L) (va_pl L g3) := by rw [eg3]; exact hD
  have hg_nd : g3 nd = .inr (1, [.ref (ad i), .long nlo, .long nhi, .long (fX1_withinLimits i nlo nhi nv nst nhs nls ngs x1), .long nst, .long (fX0_greaterOf i nhs (fX1_withinLimits i nlo nhi nv nst nhs nls ngs x1)), .long (fX0_lesserOf i nls (fX1_withinLimits i nlo nhi nv nst nhs nls ngs x1)), .long ngs]) := by rw [eg3]; exact va_up_self _ _ _
  have hrs : ∀ q : Nat, q ≠ nd → g3 q = g q := fun q h_nd => (congrFun eg3 q).trans ((va_up_ne _ _ h_nd).trans (hrs q h_nd))
  refine lv_aload_n hx hb dX1_moveTo_47 rfl (lv_at hl 0 rfl) ?_
  refine lv_aload_n hx hb dX1_moveTo_48 rfl (lv_at hl 0 rfl) ?_
  refine pg_get hx hb hts hin_X1_X1_moveTo hown hK hP hL_nd hg_nd rfl 7 (by decide) (hts (.fieldLink RX1 47 "NeedleBoard$Needle" "greatestSize" "J") (by decide +kernel)) rfl dX1_moveTo_49 ?_
  refine lv_aload_n hx hb dX1_moveTo_52 rfl (lv_at hl 0 rfl) ?_
  refine pg_get hx hb hts hin_X1_X1_moveTo hown hK hP hL_nd hg_nd rfl 0 (by decide) (hts (.fieldLink RX1 7 "NeedleBoard$Needle" "kind" "LNeedleBoard$Kind;") (by decide +kernel)) rfl dX1_moveTo_53 ?_
  refine lv_aload_n hx hb dX1_moveTo_56 rfl (lv_at hl 0 rfl) ?_
  refine pg_get hx hb hts hin_X1_X1_moveTo hown hK hP hL_nd hg_nd rfl 3 (by decide) (hts (.fieldLink RX1 35 "NeedleBoard$Needle" "value" "J") (by decide +kernel)) rfl dX1_moveTo_57 ?_
  refine pc_V (i := i) (As := [.long (fX1_withinLimits i nlo nhi nv nst nhs nls ngs x1)]) (rest := [.long ngs, .ref nd]) (r := .long (fX0_sizeOf i (fX1_withinLimits i nlo nhi nv nst nhs nls ngs x1))) ⟨hx, hb, hml, hown, hts⟩ (c_X0_sizeOf l ad i hi (fX1_withinLimits i nlo nhi nv nst nhs nls ngs x1)) (cwV 1 hts gX1_moveTo_X0_sizeOf rfl rfl rfl hd_X0_sizeOf ⟨Nat.le_of_ble_eq_true rfl, Nat.le_of_ble_eq_true rfl⟩) hKC hS hi rfl hl.1 rfl (lv_room (Nat.le_of_ble_eq_true rfl)) dX1_moveTo_60 ⟨Nat.le_of_ble_eq_true rfl, Nat.le_of_ble_eq_true rfl⟩ ?_
  refine va_mmax_long hx hb (hml.trans hl.1.symm) hown (hts (.methodLink RX1 57 Lib.MathLoose.max_long.x) (by decide +kernel)) (hts (.static Lib.MathLoose.max_long.x) (by decide +kernel)) (hts (.initialized "java/lang/Math") (by decide +kernel)) (hts (.code Lib.MathLoose.max_long.x Lib.MathLoose.max_long.code 4 (some .long)) (by decide +kernel)) (Nat.le_of_ble_eq_true rfl) (Nat.le_of_ble_eq_true rfl) (Nat.le_of_ble_eq_true rfl) (Nat.le_of_ble_eq_true rfl) dX1_moveTo_63 ?_
  refine pg_put (ty := .long) hx hb hts hin_X1_X1_moveTo tyX1 tyX1_ok nmX1 hown hK hP hD hS hL_nd hg_nd rfl 7 (by decide) (hts (.fieldLink RX1 47 "NeedleBoard$Needle" "greatestSize" "J") (by decide +kernel)) rfl (by decide +kernel) rfl rfl (Nat.le_of_ble_eq_true rfl) dX1_moveTo_66 (fun H locs hP hD hS => ?_)
  obtain ⟨g4, eg4⟩ : ∃ z : Nat → va_E, z = va_up g3 nd (.inr (1, [.ref (ad i), .long nlo, .long nhi, .long (fX1_withinLimits i nlo nhi nv nst nhs nls ngs x1), .long nst, .long (fX0_greaterOf i nhs (fX1_withinLimits i nlo nhi nv nst nhs nls ngs x1)), .long (fX0_lesserOf i nls (fX1_withinLimits i nlo nhi nv nst nhs nls ngs x1)), .long (if (fX0_sizeOf i (fX1_withinLimits i nlo nhi nv nst nhs nls ngs x1)) < ngs then ngs else (fX0_sizeOf i (fX1_withinLimits i nlo nhi nv nst nhs nls ngs x1)))])) := ⟨_, rfl⟩
  have hP : va_P D vwCl (va_pl L g4) H := by rw [eg4]; exact hP
  have hD : va_D (fun q => q ∈ L) (va_pl L g4) := by rw [eg4]; exact hD
  have hg_nd : g4 nd = .inr (1, [.ref (ad i), .long nlo, .long nhi, .long (fX1_withinLimits i nlo nhi nv nst nhs nls ngs x1), .long nst, .long (fX0_greaterOf i nhs (fX1_withinLimits i nlo nhi nv nst nhs nls ngs x1)), .long (fX0_lesserOf i nls (fX1_withinLimits i nlo nhi nv nst nhs nls ngs x1)), .long (if (fX0_sizeOf i (fX1_withinLimits i nlo nhi nv nst nhs nls ngs x1)) < ngs then ngs else (fX0_sizeOf i (fX1_withinLimits i nlo nhi nv nst nhs nls ngs x1)))]) := by rw [eg4]; exact va_up_self _ _ _
  have hrs : ∀ q : Nat, q ≠ nd → g4 q = g q := fun q h_nd => (congrFun eg4 q).trans ((va_up_ne _ _ h_nd).trans (hrs q h_nd))
  have hF : fX1_moveTo i nlo nhi nv nst nhs nls ngs x1 = (fX1_withinLimits i nlo nhi nv nst nhs nls ngs x1, fX0_greaterOf i nhs (fX1_withinLimits i nlo nhi nv nst nhs nls ngs x1), fX0_lesserOf i nls (fX1_withinLimits i nlo nhi nv nst nhs nls ngs x1), if (fX0_sizeOf i (fX1_withinLimits i nlo nhi nv nst nhs nls ngs x1)) < ngs then ngs else (fX0_sizeOf i (fX1_withinLimits i nlo nhi nv nst nhs nls ngs x1))) := (by rfl)
  have hF0 : (fX1_moveTo i nlo nhi nv nst nhs nls ngs x1).1 = fX1_withinLimits i nlo nhi nv nst nhs nls ngs x1 := by rw [hF]
  have hF1 : (fX1_moveTo i nlo nhi nv nst nhs nls ngs x1).2.1 = fX0_greaterOf i nhs (fX1_withinLimits i nlo nhi nv nst nhs nls ngs x1) := by rw [hF]
  have hF2 : (fX1_moveTo i nlo nhi nv nst nhs nls ngs x1).2.2.1 = fX0_lesserOf i nls (fX1_withinLimits i nlo nhi nv nst nhs nls ngs x1) := by rw [hF]
  have hF3 : (fX1_moveTo i nlo nhi nv nst nhs nls ngs x1).2.2.2 = if (fX0_sizeOf i (fX1_withinLimits i nlo nhi nv nst nhs nls ngs x1)) < ngs then ngs else (fX0_sizeOf i (fX1_withinLimits i nlo nhi nv nst nhs nls ngs x1)) := by rw [hF]
  exact W.vret hx hb hr (fun t ht hW => ⟨rfl, ⟨g4, WM hP hK hD hKC0 hTC hS ht hW.alike, by rw [hF0, hF1, hF2, hF3]; exact ⟨hg_nd, hrs⟩⟩, hS.F ht⟩) (fun q h => hS.2.2 q h) dX1_moveTo_69
def fX1_stepTowards (i : Nat) (nlo : Int64) (nhi : Int64) (nv : Int64) (nst : Int64) (nhs : Int64) (nls : Int64) (ngs : Int64) (x1 : Int64) : Int64 :=
  if (fX0_areAlike i nv x1) = 0 then
    if nst < (fX0_sizeOf i (fX0_sum i x1 (fX0_negated i nv))) then
      fX0_sum i nv (fX0_withSideOf i nst (fX0_sum i x1 (fX0_negated i nv)))
    else
      x1
  else
    x1
theorem hd_X1_stepTowards : yX1_stepTowards.cls = RX1 ∧ yX1_stepTowards.cls ≠ "java/lang/invoke/MethodHandle" ∧ yX1_stepTowards.cls ≠ "java/lang/invoke/VarHandle" ∧ (parseMethodDescriptor yX1_stepTowards.desc).map (fun d => d.parameters.length) = some 1 := by decide +kernel
theorem hin_X1_X1_stepTowards : ∀ w ∈ wsX10, w ∈ wsX1_stepTowards := by decide +kernel
set_option maxHeartbeats 1000000 in
set_option maxRecDepth 100000 in
theorem c_X1_stepTowards (l : Launch) (D : va_G) (tys : List (ClassId × FieldType)) (ad : Nat → Nat) (L : List Nat) (g : Nat → va_E) (nd : Nat) (i : Nat) (nlo : Int64) (nhi : Int64) (nv : Int64) (nst : Int64) (nhs : Int64) (nls : Int64) (ngs : Int64) (x1 : Int64) (hi : i < 2) (hL_nd : nd ∈ L) (hg_nd : g nd = .inr (1, [.ref (ad i), .long nlo, .long nhi, .long nv, .long nst, .long nhs, .long nls, .long ngs])) : Met l yX1_stepTowards wsX1_stepTowards ({ frames := 5, cells := 0, slots := 0, locals := 137 }) (PW D tys ad L g [.ref nd, .long x1]) (k2_QcV (.long (fX1_stepTowards i nlo nhi nv nst nhs nls ngs x1))) 0 0 (fun _ => False) := by
  refine Met.ofW (cc := cX1_stepTowards) (maxL := 5) (ret := (some .long)) (by decide) rfl ?_
  intro p e s m args below meth c s₁ B hml hv
  obtain ⟨rfl, ⟨hP, hK, hD0, hKC0, hTC⟩, hXN⟩ := hv
  have hP0 := hP
  have hD : va_D (fun q => q ∈ L) (va_pl L g) := we_D (fun _ h => h) hD0
  have hKC : KC ad (fun q => q ∈ L) s s.heap := hKC0.narrow (fun _ h => Or.inl h)
  have hS : va_S (fun q => q ∈ L) s.heap s.heap [] := va_S.rf
  have hx := B.exec
  have hb := B.bytes
  have hr := B.returns
  have hts := atoms_spec (ws := wsX1_stepTowards) B.pre
  have hown : s.vm.findClass RX1 = some m.cls := findClass_of_methodNamed B.named
  have hlocks := B.notSynchronized
  have hl := lv_entry ([.ref nd, .long x1]) (n := 5) (Nat.le_of_ble_eq_true rfl)
  rw [lg_entry_eq]
  generalize (lg_sl ([.ref nd, .long x1]) ++ List.replicate (5 - (lg_sl ([.ref nd, .long x1])).length) Slot.unset).toArray = ls at hl ⊢
  have hl : lv_has ls 5 [(0, .ref nd), (1, .long x1)] := hl
  refine lv_aload_n hx hb dX1_stepTowards_0 rfl (lv_at hl 0 rfl) ?_
  refine pg_get hx hb hts hin_X1_X1_stepTowards hown hK hP hL_nd hg_nd rfl 0 (by decide) (hts (.fieldLink RX1 7 "NeedleBoard$Needle" "kind" "LNeedleBoard$Kind;") (by decide +kernel)) rfl dX1_stepTowards_1 ?_
  refine lv_aload_n hx hb dX1_stepTowards_4 rfl (lv_at hl 0 rfl) ?_
  refine pg_get hx hb hts hin_X1_X1_stepTowards hown hK hP hL_nd hg_nd rfl 3 (by decide) (hts (.fieldLink RX1 35 "NeedleBoard$Needle" "value" "J") (by decide +kernel)) rfl dX1_stepTowards_5 ?_
  refine lv_lload_n hx hb dX1_stepTowards_8 rfl (lv_at hl 1 rfl) ?_
  refine pc_V (i := i) (As := [.long nv, .long x1]) (rest := []) (r := .int (fX0_areAlike i nv x1)) ⟨hx, hb, hml, hown, hts⟩ (c_X0_areAlike l ad i hi nv x1) (cwV 2 hts gX1_stepTowards_X0_areAlike rfl rfl rfl hd_X0_areAlike ⟨Nat.le_of_ble_eq_true rfl, Nat.le_of_ble_eq_true rfl⟩) hKC hS hi rfl hl.1 rfl (lv_room (Nat.le_of_ble_eq_true rfl)) dX1_stepTowards_9 ⟨Nat.le_of_ble_eq_true rfl, Nat.le_of_ble_eq_true rfl⟩ ?_
  refine lv_if_eq (tgt := 17) hx hb dX1_stepTowards_12 (by decide) (fun c_1 => ?_) (fun c_1 => ?_)
  · refine lv_aload_n hx hb dX1_stepTowards_17 rfl (lv_at hl 0 rfl) ?_
    refine pg_get hx hb hts hin_X1_X1_stepTowards hown hK hP hL_nd hg_nd rfl 0 (by decide) (hts (.fieldLink RX1 7 "NeedleBoard$Needle" "kind" "LNeedleBoard$Kind;") (by decide +kernel)) rfl dX1_stepTowards_18 ?_
    refine lv_lload_n hx hb dX1_stepTowards_21 rfl (lv_at hl 1 rfl) ?_
    refine lv_aload_n hx hb dX1_stepTowards_22 rfl (lv_at hl 0 rfl) ?_
    refine pg_get hx hb hts hin_X1_X1_stepTowards hown hK hP hL_nd hg_nd rfl 0 (by decide) (hts (.fieldLink RX1 7 "NeedleBoard$Needle" "kind" "LNeedleBoard$Kind;") (by decide +kernel)) rfl dX1_stepTowards_23 ?_
    refine lv_aload_n hx hb dX1_stepTowards_26 rfl (lv_at hl 0 rfl) ?_
    refine pg_get hx hb hts hin_X1_X1_stepTowards hown hK hP hL_nd hg_nd rfl 3 (by decide) (hts (.fieldLink RX1 35 "NeedleBoard$Needle" "value" "J") (by decide +kernel)) rfl dX1_stepTowards_27 ?_
    refine pc_V (i := i) (As := [.long nv]) (rest := [.long x1, .ref (ad i)]) (r := .long (fX0_negated i nv)) ⟨hx, hb, hml, hown, hts⟩ (c_X0_negated l ad i hi nv) (cwV 1 hts gX1_stepTowards_X0_negated rfl rfl rfl hd_X0_negated ⟨Nat.le_of_ble_eq_true rfl, Nat.le_of_ble_eq_true rfl⟩) hKC hS hi rfl hl.1 rfl (lv_room (Nat.le_of_ble_eq_true rfl)) dX1_stepTowards_30 ⟨Nat.le_of_ble_eq_true rfl, Nat.le_of_ble_eq_true rfl⟩ ?_
    refine pc_V (i := i) (As := [.long x1, .long (fX0_negated i nv)]) (rest := []) (r := .long (fX0_sum i x1 (fX0_negated i nv))) ⟨hx, hb, hml, hown, hts⟩ (c_X0_sum l ad i hi x1 (fX0_negated i nv)) (cwV 2 hts gX1_stepTowards_X0_sum rfl rfl rfl hd_X0_sum ⟨Nat.le_of_ble_eq_true rfl, Nat.le_of_ble_eq_true rfl⟩) hKC hS hi rfl hl.1 rfl (lv_room (Nat.le_of_ble_eq_true rfl)) dX1_stepTowards_33 ⟨Nat.le_of_ble_eq_true rfl, Nat.le_of_ble_eq_true rfl⟩ ?_
    refine lv_lstore_n (lv' := [(3, .long (fX0_sum i x1 (fX0_negated i nv))), (0, .ref nd), (1, .long x1)]) hx hb dX1_stepTowards_36 rfl hl (by decide) rfl (fun ls hl => ?_)
    refine lv_aload_n hx hb dX1_stepTowards_37 rfl (lv_at hl 1 rfl) ?_
    refine pg_get hx hb hts hin_X1_X1_stepTowards hown hK hP hL_nd hg_nd rfl 0 (by decide) (hts (.fieldLink RX1 7 "NeedleBoard$Needle" "kind" "LNeedleBoard$Kind;") (by decide +kernel)) rfl dX1_stepTowards_38 ?_
    refine lv_lload_n hx hb dX1_stepTowards_41 rfl (lv_at hl 0 rfl) ?_
    refine pc_V (i := i) (As := [.long (fX0_sum i x1 (fX0_negated i nv))]) (rest := []) (r := .long (fX0_sizeOf i (fX0_sum i x1 (fX0_negated i nv)))) ⟨hx, hb, hml, hown, hts⟩ (c_X0_sizeOf l ad i hi (fX0_sum i x1 (fX0_negated i nv))) (cwV 1 hts gX1_stepTowards_X0_sizeOf rfl rfl rfl hd_X0_sizeOf ⟨Nat.le_of_ble_eq_true rfl, Nat.le_of_ble_eq_true rfl⟩) hKC hS hi rfl hl.1 rfl (lv_room (Nat.le_of_ble_eq_true rfl)) dX1_stepTowards_42 ⟨Nat.le_of_ble_eq_true rfl, Nat.le_of_ble_eq_true rfl⟩ ?_
    refine lv_aload_n hx hb dX1_stepTowards_45 rfl (lv_at hl 1 rfl) ?_
    refine pg_get hx hb hts hin_X1_X1_stepTowards hown hK hP hL_nd hg_nd rfl 4 (by decide) (hts (.fieldLink RX1 25 "NeedleBoard$Needle" "step" "J") (by decide +kernel)) rfl dX1_stepTowards_46 ?_
    refine pl_gt (tgt := 55) hx hb dX1_stepTowards_49 dX1_stepTowards_50 (by decide) (fun c_2 => ?_) (fun c_2 => ?_)
    · refine lv_aload_n hx hb dX1_stepTowards_55 rfl (lv_at hl 1 rfl) ?_
      refine pg_get hx hb hts hin_X1_X1_stepTowards hown hK hP hL_nd hg_nd rfl 0 (by decide) (hts (.fieldLink RX1 7 "NeedleBoard$Needle" "kind" "LNeedleBoard$Kind;") (by decide +kernel)) rfl dX1_stepTowards_56 ?_
      refine lv_aload_n hx hb dX1_stepTowards_59 rfl (lv_at hl 1 rfl) ?_
      refine pg_get hx hb hts hin_X1_X1_stepTowards hown hK hP hL_nd hg_nd rfl 3 (by decide) (hts (.fieldLink RX1 35 "NeedleBoard$Needle" "value" "J") (by decide +kernel)) rfl dX1_stepTowards_60 ?_
      refine lv_aload_n hx hb dX1_stepTowards_63 rfl (lv_at hl 1 rfl) ?_
      refine pg_get hx hb hts hin_X1_X1_stepTowards hown hK hP hL_nd hg_nd rfl 0 (by decide) (hts (.fieldLink RX1 7 "NeedleBoard$Needle" "kind" "LNeedleBoard$Kind;") (by decide +kernel)) rfl dX1_stepTowards_64 ?_
      refine lv_aload_n hx hb dX1_stepTowards_67 rfl (lv_at hl 1 rfl) ?_
      refine pg_get hx hb hts hin_X1_X1_stepTowards hown hK hP hL_nd hg_nd rfl 4 (by decide) (hts (.fieldLink RX1 25 "NeedleBoard$Needle" "step" "J") (by decide +kernel)) rfl dX1_stepTowards_68 ?_
      refine lv_lload_n hx hb dX1_stepTowards_71 rfl (lv_at hl 0 rfl) ?_
      refine pc_V (i := i) (As := [.long nst, .long (fX0_sum i x1 (fX0_negated i nv))]) (rest := [.long nv, .ref (ad i)]) (r := .long (fX0_withSideOf i nst (fX0_sum i x1 (fX0_negated i nv)))) ⟨hx, hb, hml, hown, hts⟩ (c_X0_withSideOf l ad i hi nst (fX0_sum i x1 (fX0_negated i nv))) (cwV 2 hts gX1_stepTowards_X0_withSideOf rfl rfl rfl hd_X0_withSideOf ⟨Nat.le_of_ble_eq_true rfl, Nat.le_of_ble_eq_true rfl⟩) hKC hS hi rfl hl.1 rfl (lv_room (Nat.le_of_ble_eq_true rfl)) dX1_stepTowards_72 ⟨Nat.le_of_ble_eq_true rfl, Nat.le_of_ble_eq_true rfl⟩ ?_
      refine pc_V (i := i) (As := [.long nv, .long (fX0_withSideOf i nst (fX0_sum i x1 (fX0_negated i nv)))]) (rest := []) (r := .long (fX0_sum i nv (fX0_withSideOf i nst (fX0_sum i x1 (fX0_negated i nv))))) ⟨hx, hb, hml, hown, hts⟩ (c_X0_sum l ad i hi nv (fX0_withSideOf i nst (fX0_sum i x1 (fX0_negated i nv)))) (cwV 2 hts gX1_stepTowards_X0_sum rfl rfl rfl hd_X0_sum ⟨Nat.le_of_ble_eq_true rfl, Nat.le_of_ble_eq_true rfl⟩) hKC hS hi rfl hl.1 rfl (lv_room (Nat.le_of_ble_eq_true rfl)) dX1_stepTowards_75 ⟨Nat.le_of_ble_eq_true rfl, Nat.le_of_ble_eq_true rfl⟩ ?_
      have hF : fX1_stepTowards i nlo nhi nv nst nhs nls ngs x1 = fX0_sum i nv (fX0_withSideOf i nst (fX0_sum i x1 (fX0_negated i nv))) := (by unfold fX1_stepTowards; rw [if_pos c_1, if_pos c_2])
      have hF0 := hF
      exact W.lret hx hb hr (fun t ht _ => ⟨congrArg (fun z => Outcome.returned (some (Value.long z))) hF0.symm, ht⟩) (fun _ h => nomatch h) dX1_stepTowards_78
    · refine lv_lload_n hx hb dX1_stepTowards_53 rfl (lv_at hl 2 rfl) ?_
      have hF : fX1_stepTowards i nlo nhi nv nst nhs nls ngs x1 = x1 := (by unfold fX1_stepTowards; rw [if_pos c_1, if_neg c_2])
      have hF0 := hF
      exact W.lret hx hb hr (fun t ht _ => ⟨congrArg (fun z => Outcome.returned (some (Value.long z))) hF0.symm, ht⟩) (fun _ h => nomatch h) dX1_stepTowards_54
  · refine lv_lload_n hx hb dX1_stepTowards_15 rfl (lv_at hl 1 rfl) ?_
    have hF : fX1_stepTowards i nlo nhi nv nst nhs nls ngs x1 = x1 := (by unfold fX1_stepTowards; rw [if_neg c_1])
    have hF0 := hF
    exact W.lret hx hb hr (fun t ht _ => ⟨congrArg (fun z => Outcome.returned (some (Value.long z))) hF0.symm, ht⟩) (fun _ h => nomatch h) dX1_stepTowards_16
def fX1_fineValue (i : Nat) (nlo : Int64) (nhi : Int64) (nv : Int64) (nst : Int64) (nhs : Int64) (nls : Int64) (ngs : Int64) : Int64 :=
  if i = 0 then
    nv
  else
    fX0_fineFromCoarse nv
theorem hd_X1_fineValue : yX1_fineValue.cls = RX1 ∧ yX1_fineValue.cls ≠ "java/lang/invoke/MethodHandle" ∧ yX1_fineValue.cls ≠ "java/lang/invoke/VarHandle" ∧ (parseMethodDescriptor yX1_fineValue.desc).map (fun d => d.parameters.length) = some 0 := by decide +kernel
theorem hin_X1_X1_fineValue : ∀ w ∈ wsX10, w ∈ wsX1_fineValue := by decide +kernel
set_option maxHeartbeats 1000000 in
set_option maxRecDepth 100000 in
theorem c_X1_fineValue (l : Launch) (D : va_G) (tys : List (ClassId × FieldType)) (ad : Nat → Nat) (L : List Nat) (g : Nat → va_E) (nd : Nat) (i : Nat) (nlo : Int64) (nhi : Int64) (nv : Int64) (nst : Int64) (nhs : Int64) (nls : Int64) (ngs : Int64) (hi : i < 2) (hL_nd : nd ∈ L) (hg_nd : g nd = .inr (1, [.ref (ad i), .long nlo, .long nhi, .long nv, .long nst, .long nhs, .long nls, .long ngs])) : Met l yX1_fineValue wsX1_fineValue ({ frames := 4, cells := 0, slots := 0, locals := 104 }) (PW D tys ad L g [.ref nd]) (k2_QcV (.long (fX1_fineValue i nlo nhi nv nst nhs nls ngs))) 0 0 (fun _ => False) := by
  refine Met.ofW (cc := cX1_fineValue) (maxL := 1) (ret := (some .long)) (by decide) rfl ?_
  intro p e s m args below meth c s₁ B hml hv
  obtain ⟨rfl, ⟨hP, hK, hD0, hKC0, hTC⟩, hXN⟩ := hv
  have hP0 := hP
  have hD : va_D (fun q => q ∈ L) (va_pl L g) := we_D (fun _ h => h) hD0
  have hKC : KC ad (fun q => q ∈ L) s s.heap := hKC0.narrow (fun _ h => Or.inl h)
  have hS : va_S (fun q => q ∈ L) s.heap s.heap [] := va_S.rf
  have hx := B.exec
  have hb := B.bytes
  have hr := B.returns
  have hts := atoms_spec (ws := wsX1_fineValue) B.pre
  have hown : s.vm.findClass RX1 = some m.cls := findClass_of_methodNamed B.named
  have hlocks := B.notSynchronized
  have hl := lv_entry ([.ref nd]) (n := 1) (Nat.le_of_ble_eq_true rfl)
  rw [lg_entry_eq]
  generalize (lg_sl ([.ref nd]) ++ List.replicate (1 - (lg_sl ([.ref nd])).length) Slot.unset).toArray = ls at hl ⊢
  have hl : lv_has ls 1 [(0, .ref nd)] := hl
  refine lv_aload_n hx hb dX1_fineValue_0 rfl (lv_at hl 0 rfl) ?_
  refine pg_get hx hb hts hin_X1_X1_fineValue hown hK hP hL_nd hg_nd rfl 0 (by decide) (hts (.fieldLink RX1 7 "NeedleBoard$Needle" "kind" "LNeedleBoard$Kind;") (by decide +kernel)) rfl dX1_fineValue_1 ?_
  refine pk_fine hx hb hKC hS hown (hts (.fieldLink RX1 75 "NeedleBoard$Kind" "FINE" "LNeedleBoard$Kind;") (by decide +kernel)) dX1_fineValue_4 ?_
  refine pa_ne (tgt := 17) hx hb hKC hi (by decide) dX1_fineValue_7 (by decide) (fun c_1 => ?_) (fun c_1 => ?_)
  · refine lv_aload_n hx hb dX1_fineValue_17 rfl (lv_at hl 0 rfl) ?_
    refine pg_get hx hb hts hin_X1_X1_fineValue hown hK hP hL_nd hg_nd rfl 3 (by decide) (hts (.fieldLink RX1 35 "NeedleBoard$Needle" "value" "J") (by decide +kernel)) rfl dX1_fineValue_18 ?_
    refine pc_S (ad := ad) (As := [.long nv]) (rest := []) (r := .long (fX0_fineFromCoarse nv)) ⟨hx, hb, hml, hown, hts⟩ (c_X0_fineFromCoarse l ad nv) (va_cwS 1 hts gX1_fineValue_X0_fineFromCoarse rfl rfl rfl hd_X0_fineFromCoarse ⟨Nat.le_of_ble_eq_true rfl, Nat.le_of_ble_eq_true rfl⟩) hKC hS rfl hl.1 rfl (lv_room (Nat.le_of_ble_eq_true rfl)) dX1_fineValue_21 ⟨Nat.le_of_ble_eq_true rfl, Nat.le_of_ble_eq_true rfl⟩ ?_
    have hF : fX1_fineValue i nlo nhi nv nst nhs nls ngs = fX0_fineFromCoarse nv := (by unfold fX1_fineValue; rw [if_neg c_1])
    have hF0 := hF
    exact W.lret hx hb hr (fun t ht _ => ⟨congrArg (fun z => Outcome.returned (some (Value.long z))) hF0.symm, ht⟩) (fun _ h => nomatch h) dX1_fineValue_24
  · refine lv_aload_n hx hb dX1_fineValue_10 rfl (lv_at hl 0 rfl) ?_
    refine pg_get hx hb hts hin_X1_X1_fineValue hown hK hP hL_nd hg_nd rfl 3 (by decide) (hts (.fieldLink RX1 35 "NeedleBoard$Needle" "value" "J") (by decide +kernel)) rfl dX1_fineValue_11 ?_
    refine lv_goto (tgt := 24) hx hb dX1_fineValue_14 (by decide) ?_
    have hF : fX1_fineValue i nlo nhi nv nst nhs nls ngs = nv := (by unfold fX1_fineValue; rw [if_pos c_1])
    have hF0 := hF
    exact W.lret hx hb hr (fun t ht _ => ⟨congrArg (fun z => Outcome.returned (some (Value.long z))) hF0.symm, ht⟩) (fun _ h => nomatch h) dX1_fineValue_24
def fX1_isCounted (i : Nat) (nlo : Int64) (nhi : Int64) (nv : Int64) (nst : Int64) (nhs : Int64) (nls : Int64) (ngs : Int64) (x1 : Int32) : Int32 :=
  if x1 = 1 then
    if i = 0 then
      (1 : Int32)
    else
      (0 : Int32)
  else
    if x1 = 2 then
      if (fX0_sizeOf i nv) = (0 : Int64) then
        (1 : Int32)
      else
        (0 : Int32)
    else
      if nv = nlo then
        (1 : Int32)
      else
        if nv = nhi then
          (1 : Int32)
        else
          (0 : Int32)
theorem hd_X1_isCounted : yX1_isCounted.cls = RX1 ∧ yX1_isCounted.cls ≠ "java/lang/invoke/MethodHandle" ∧ yX1_isCounted.cls ≠ "java/lang/invoke/VarHandle" ∧ (parseMethodDescriptor yX1_isCounted.desc).map (fun d => d.parameters.length) = some 1 := by decide +kernel
theorem hin_X1_X1_isCounted : ∀ w ∈ wsX10, w ∈ wsX1_isCounted := by decide +kernel
set_option maxHeartbeats 1000000 in
set_option maxRecDepth 100000 in
theorem c_X1_isCounted (l : Launch) (D : va_G) (tys : List (ClassId × FieldType)) (ad : Nat → Nat) (L : List Nat) (g : Nat → va_E) (nd : Nat) (i : Nat) (nlo : Int64) (nhi : Int64) (nv : Int64) (nst : Int64) (nhs : Int64) (nls : Int64) (ngs : Int64) (x1 : Int32) (hi : i < 2) (hL_nd : nd ∈ L) (hg_nd : g nd = .inr (1, [.ref (ad i), .long nlo, .long nhi, .long nv, .long nst, .long nhs, .long nls, .long ngs])) : Met l yX1_isCounted wsX1_isCounted ({ frames := 1, cells := 0, slots := 0, locals := 22 }) (PW D tys ad L g [.ref nd, .int x1]) (k2_QcV (.int (fX1_isCounted i nlo nhi nv nst nhs nls ngs x1))) 0 0 (fun _ => False) := by
  refine Met.ofW (cc := cX1_isCounted) (maxL := 2) (ret := (some .boolean)) (by decide) rfl ?_
  intro p e s m args below meth c s₁ B hml hv
  obtain ⟨rfl, ⟨hP, hK, hD0, hKC0, hTC⟩, hXN⟩ := hv
  have hP0 := hP
  have hD : va_D (fun q => q ∈ L) (va_pl L g) := we_D (fun _ h => h) hD0
  have hKC : KC ad (fun q => q ∈ L) s s.heap := hKC0.narrow (fun _ h => Or.inl h)
  have hS : va_S (fun q => q ∈ L) s.heap s.heap [] := va_S.rf
  have hx := B.exec
  have hb := B.bytes
  have hr := B.returns
  have hts := atoms_spec (ws := wsX1_isCounted) B.pre
  have hown : s.vm.findClass RX1 = some m.cls := findClass_of_methodNamed B.named
  have hlocks := B.notSynchronized
  have hl := lv_entry ([.ref nd, .int x1]) (n := 2) (Nat.le_of_ble_eq_true rfl)
  rw [lg_entry_eq]
  generalize (lg_sl ([.ref nd, .int x1]) ++ List.replicate (2 - (lg_sl ([.ref nd, .int x1])).length) Slot.unset).toArray = ls at hl ⊢
  have hl : lv_has ls 2 [(0, .ref nd), (1, .int x1)] := hl
  refine lv_iload_n hx hb dX1_isCounted_0 rfl (lv_at hl 1 rfl) ?_
  by_cases c_1 : x1 = 1
  · refine lv_lookup (tgt := 28) (off := 27) hx hb dX1_isCounted_1 (by decide) (by rw [c_1]; rfl) (by decide) ?_
    refine lv_aload_n hx hb dX1_isCounted_28 rfl (lv_at hl 0 rfl) ?_
    refine pg_get hx hb hts hin_X1_X1_isCounted hown hK hP hL_nd hg_nd rfl 0 (by decide) (hts (.fieldLink RX1 7 "NeedleBoard$Needle" "kind" "LNeedleBoard$Kind;") (by decide +kernel)) rfl dX1_isCounted_29 ?_
    refine pk_fine hx hb hKC hS hown (hts (.fieldLink RX1 75 "NeedleBoard$Kind" "FINE" "LNeedleBoard$Kind;") (by decide +kernel)) dX1_isCounted_32 ?_
    refine pa_ne (tgt := 42) hx hb hKC hi (by decide) dX1_isCounted_35 (by decide) (fun c_2 => ?_) (fun c_2 => ?_)
    · refine lv_iconst (v := 0) hx hb dX1_isCounted_42 (by decide) ?_
      have hF : fX1_isCounted i nlo nhi nv nst nhs nls ngs x1 = (0 : Int32) := (by unfold fX1_isCounted; rw [if_pos c_1, if_neg c_2])
      have hF0 := hF
      exact W.zret hx hb hr (by decide) (fun t ht _ => ⟨congrArg (fun z => Outcome.returned (some (Value.int z))) hF0.symm, ht⟩) (fun _ h => nomatch h) dX1_isCounted_43
    · refine lv_iconst (v := 1) hx hb dX1_isCounted_38 (by decide) ?_
      refine lv_goto (tgt := 43) hx hb dX1_isCounted_39 (by decide) ?_
      have hF : fX1_isCounted i nlo nhi nv nst nhs nls ngs x1 = (1 : Int32) := (by unfold fX1_isCounted; rw [if_pos c_1, if_pos c_2])
      have hF0 := hF
      exact W.zret hx hb hr (by decide) (fun t ht _ => ⟨congrArg (fun z => Outcome.returned (some (Value.int z))) hF0.symm, ht⟩) (fun _ h => nomatch h) dX1_isCounted_43
  · by_cases c_3 : x1 = 2
    · refine lv_lookup (tgt := 44) (off := 43) hx hb dX1_isCounted_1 (by decide) (by rw [c_3]; rfl) (by decide) ?_
      refine lv_aload_n hx hb dX1_isCounted_44 rfl (lv_at hl 0 rfl) ?_
      refine pg_get hx hb hts hin_X1_X1_isCounted hown hK hP hL_nd hg_nd rfl 0 (by decide) (hts (.fieldLink RX1 7 "NeedleBoard$Needle" "kind" "LNeedleBoard$Kind;") (by decide +kernel)) rfl dX1_isCounted_45 ?_
      refine lv_aload_n hx hb dX1_isCounted_48 rfl (lv_at hl 0 rfl) ?_
      refine pg_get hx hb hts hin_X1_X1_isCounted hown hK hP hL_nd hg_nd rfl 3 (by decide) (hts (.fieldLink RX1 35 "NeedleBoard$Needle" "value" "J") (by decide +kernel)) rfl dX1_isCounted_49 ?_
      refine pc_V (i := i) (As := [.long nv]) (rest := []) (r := .long (fX0_sizeOf i nv)) ⟨hx, hb, hml, hown, hts⟩ (c_X0_sizeOf l ad i hi nv) (cwV 1 hts gX1_isCounted_X0_sizeOf rfl rfl rfl hd_X0_sizeOf ⟨Nat.le_of_ble_eq_true rfl, Nat.le_of_ble_eq_true rfl⟩) hKC hS hi rfl hl.1 rfl (lv_room (Nat.le_of_ble_eq_true rfl)) dX1_isCounted_52 ⟨Nat.le_of_ble_eq_true rfl, Nat.le_of_ble_eq_true rfl⟩ ?_
      refine lv_lconst (v := 0) hx hb dX1_isCounted_55 (by decide) ?_
      refine pl_ne (tgt := 64) hx hb dX1_isCounted_56 dX1_isCounted_57 (by decide) (fun c_4 => ?_) (fun c_4 => ?_)
      · refine lv_iconst (v := 0) hx hb dX1_isCounted_64 (by decide) ?_
        have hF : fX1_isCounted i nlo nhi nv nst nhs nls ngs x1 = (0 : Int32) := (by unfold fX1_isCounted; rw [if_neg c_1, if_pos c_3, if_neg c_4])
        have hF0 := hF
        exact W.zret hx hb hr (by decide) (fun t ht _ => ⟨congrArg (fun z => Outcome.returned (some (Value.int z))) hF0.symm, ht⟩) (fun _ h => nomatch h) dX1_isCounted_65
      · refine lv_iconst (v := 1) hx hb dX1_isCounted_60 (by decide) ?_
        refine lv_goto (tgt := 65) hx hb dX1_isCounted_61 (by decide) ?_
        have hF : fX1_isCounted i nlo nhi nv nst nhs nls ngs x1 = (1 : Int32) := (by unfold fX1_isCounted; rw [if_neg c_1, if_pos c_3, if_pos c_4])
        have hF0 := hF
        exact W.zret hx hb hr (by decide) (fun t ht _ => ⟨congrArg (fun z => Outcome.returned (some (Value.int z))) hF0.symm, ht⟩) (fun _ h => nomatch h) dX1_isCounted_65
    · refine lv_lookup (tgt := 66) (off := 65) hx hb dX1_isCounted_1 (by decide) (by refine (lv_osw c_1 (by decide)).trans ?_; refine (lv_osw c_3 (by decide)).trans ?_; rfl) (by decide) ?_
      refine lv_aload_n hx hb dX1_isCounted_66 rfl (lv_at hl 0 rfl) ?_
      refine pg_get hx hb hts hin_X1_X1_isCounted hown hK hP hL_nd hg_nd rfl 3 (by decide) (hts (.fieldLink RX1 35 "NeedleBoard$Needle" "value" "J") (by decide +kernel)) rfl dX1_isCounted_67 ?_
      refine lv_aload_n hx hb dX1_isCounted_70 rfl (lv_at hl 0 rfl) ?_
      refine pg_get hx hb hts hin_X1_X1_isCounted hown hK hP hL_nd hg_nd rfl 1 (by decide) (hts (.fieldLink RX1 13 "NeedleBoard$Needle" "low" "J") (by decide +kernel)) rfl dX1_isCounted_71 ?_
      refine pl_eq (tgt := 90) hx hb dX1_isCounted_74 dX1_isCounted_75 (by decide) (fun c_5 => ?_) (fun c_5 => ?_)
      · refine lv_iconst (v := 1) hx hb dX1_isCounted_90 (by decide) ?_
        refine lv_goto (tgt := 95) hx hb dX1_isCounted_91 (by decide) ?_
        have hF : fX1_isCounted i nlo nhi nv nst nhs nls ngs x1 = (1 : Int32) := (by unfold fX1_isCounted; rw [if_neg c_1, if_neg c_3, if_pos c_5])
        have hF0 := hF
        exact W.zret hx hb hr (by decide) (fun t ht _ => ⟨congrArg (fun z => Outcome.returned (some (Value.int z))) hF0.symm, ht⟩) (fun _ h => nomatch h) dX1_isCounted_95
      · refine lv_aload_n hx hb dX1_isCounted_78 rfl (lv_at hl 0 rfl) ?_
        refine pg_get hx hb hts hin_X1_X1_isCounted hown hK hP hL_nd hg_nd rfl 3 (by decide) (hts (.fieldLink RX1 35 "NeedleBoard$Needle" "value" "J") (by decide +kernel)) rfl dX1_isCounted_79 ?_
        refine lv_aload_n hx hb dX1_isCounted_82 rfl (lv_at hl 0 rfl) ?_
        refine pg_get hx hb hts hin_X1_X1_isCounted hown hK hP hL_nd hg_nd rfl 2 (by decide) (hts (.fieldLink RX1 17 "NeedleBoard$Needle" "high" "J") (by decide +kernel)) rfl dX1_isCounted_83 ?_
        refine pl_ne (tgt := 94) hx hb dX1_isCounted_86 dX1_isCounted_87 (by decide) (fun c_6 => ?_) (fun c_6 => ?_)
        · refine lv_iconst (v := 0) hx hb dX1_isCounted_94 (by decide) ?_
          have hF : fX1_isCounted i nlo nhi nv nst nhs nls ngs x1 = (0 : Int32) := (by unfold fX1_isCounted; rw [if_neg c_1, if_neg c_3, if_neg c_5, if_neg c_6])
          have hF0 := hF
          exact W.zret hx hb hr (by decide) (fun t ht _ => ⟨congrArg (fun z => Outcome.returned (some (Value.int z))) hF0.symm, ht⟩) (fun _ h => nomatch h) dX1_isCounted_95
        · refine lv_iconst (v := 1) hx hb dX1_isCounted_90 (by decide) ?_
          refine lv_goto (tgt := 95) hx hb dX1_isCounted_91 (by decide) ?_
          have hF : fX1_isCounted i nlo nhi nv nst nhs nls ngs x1 = (1 : Int32) := (by unfold fX1_isCounted; rw [if_neg c_1, if_neg c_3, if_neg c_5, if_pos c_6])
          have hF0 := hF
          exact W.zret hx hb hr (by decide) (fun t ht _ => ⟨congrArg (fun z => Outcome.returned (some (Value.int z))) hF0.symm, ht⟩) (fun _ h => nomatch h) dX1_isCounted_95
