theorem hd_X2_face : yX2_face.cls = RX2 ∧ yX2_face.cls ≠ "java/lang/invoke/MethodHandle" ∧ yX2_face.cls ≠ "java/lang/invoke/VarHandle" ∧ (parseMethodDescriptor yX2_face.desc).map (fun d => d.parameters.length) = some 2 := by decide +kernel
set_option maxHeartbeats 1000000 in
set_option maxRecDepth 100000 in
theorem c_X2_face_no (l : Launch) (hfl : l.stackTraces = false) {cyN : ClassId} (D : va_G) (tys : List (ClassId × FieldType)) (ad : Nat → Nat) (L : List Nat) (g : Nat → va_E) (ob arr : Nat) (made : Int32) (mvs : Int32) (twi : Int64) (tna : Int32) (fa : Nat → Option Nat) (x1 : Int32) (x2 : Int32) (hL_ob : ob ∈ L) (hL_arr : arr ∈ L) (hg_ob : g ob = .inr (2, [.ref arr, .int made, .int mvs, .long twi, .int tna])) (hg_arr : g arr = .inl (cyN, 8, .inr (.inr (.inr (.inr fa))))) (htN : tys[2]? = some (cyN, .object RX1)) (hab : ¬ vp_in x1 8 ∨ fa x1.toNatClampNeg = none) : vx_Met l yX2_face wsX2_face ({ frames := 7, cells := 1, slots := 6, locals := 104 }) (PW D tys ad L g [.ref ob, .int x1, .int x2]) (QR (1) none) (XW D tys ad L g (1)) 1 6 (fun _ => False) := by
  refine vx_ofW (cc := cX2_face) (maxL := 5) (ret := (some .long)) (by decide) rfl ?_
  intro p e s m args below meth c s₁ B hml hout hv
  obtain ⟨rfl, ⟨hP, hK, hD0, hKC0, hTC⟩, hXN⟩ := hv
  have hP0 := hP
  have hD : va_D (fun q => q ∈ L) (va_pl L g) := we_D (fun _ h => h) hD0
  have hKC : KC ad (fun q => q ∈ L) s s.heap := hKC0.narrow (fun _ h => Or.inl h)
  have hS : va_S (fun q => q ∈ L) s.heap s.heap [] := va_S.rf
  have hx := B.exec
  have hb := B.bytes
  have hr := B.returns
  have hts := atoms_spec (ws := wsX2_face) B.pre
  have hown : s.vm.findClass RX2 = some m.cls := findClass_of_methodNamed B.named
  have hlocks := B.notSynchronized
  have hl := lv_entry ([.ref ob, .int x1, .int x2]) (n := 5) (Nat.le_of_ble_eq_true rfl)
  rw [lg_entry_eq]
  generalize (lg_sl ([.ref ob, .int x1, .int x2]) ++ List.replicate (5 - (lg_sl ([.ref ob, .int x1, .int x2])).length) Slot.unset).toArray = ls at hl ⊢
  have hl : lv_has ls 5 [(0, .ref ob), (1, .int x1), (2, .int x2)] := hl
  refine lv_aload_n hx hb dX2_face_0 rfl (lv_at hl 0 rfl) ?_
  refine lv_iload_n hx hb dX2_face_1 rfl (lv_at hl 1 rfl) ?_
  exact xp_V (b := ob) (As := [.int x1]) (rest := []) ⟨hx, hb, hml, hown, hts⟩ (c_X2_needleAt_no l hfl D tys ad L g  ob arr made mvs twi tna fa x1 hL_ob hL_arr hg_ob hg_arr htN hab) (cwV 1 hts gX2_face_X2_needleAt rfl rfl rfl hd_X2_needleAt ⟨Nat.le_of_ble_eq_true rfl, Nat.le_of_ble_eq_true rfl⟩) (pg_recv hK hP hL_ob hg_ob rfl) (fun U hU hvm => WM hP hK hD hKC0 hTC hS hU hvm) hXN rfl hl.1 rfl (lv_room (Nat.le_of_ble_eq_true rfl)) dX2_face_2 ⟨Nat.le_of_ble_eq_true rfl, Nat.le_of_ble_eq_true rfl⟩ hout hlocks (fun _ => rfl) (Nat.le_of_ble_eq_true rfl) (Nat.le_of_ble_eq_true rfl) (fun h9 => absurd h9 (by decide))
set_option maxHeartbeats 1000000 in
set_option maxRecDepth 100000 in
theorem c_X2_face_no2 (l : Launch) (hfl : l.stackTraces = false) {cyN : ClassId} (D : va_G) (tys : List (ClassId × FieldType)) (ad : Nat → Nat) (L : List Nat) (g : Nat → va_E) (ob arr nd : Nat) (made : Int32) (mvs : Int32) (twi : Int64) (tna : Int32) (fa : Nat → Option Nat) (i : Nat) (nlo : Int64) (nhi : Int64) (nv : Int64) (nst : Int64) (nhs : Int64) (nls : Int64) (ngs : Int64) (x1 : Int32) (x2 : Int32) (hi : i < 2) (hL_ob : ob ∈ L) (hL_arr : arr ∈ L) (hL_nd : nd ∈ L) (hg_ob : g ob = .inr (2, [.ref arr, .int made, .int mvs, .long twi, .int tna])) (hg_arr : g arr = .inl (cyN, 8, .inr (.inr (.inr (.inr fa))))) (hg_nd : g nd = .inr (1, [.ref (ad i), .long nlo, .long nhi, .long nv, .long nst, .long nhs, .long nls, .long ngs])) (htN : tys[2]? = some (cyN, .object RX1)) (hia : vp_in x1 8) (hfa : fa x1.toNatClampNeg = some nd) (hab2 : ¬ vp_in x2 8 ∨ fa x2.toNatClampNeg = none) : vx_Met l yX2_face wsX2_face ({ frames := 7, cells := 2, slots := 12, locals := 104 }) (PW D tys ad L g [.ref ob, .int x1, .int x2]) (QR (1) none) (XW D tys ad L g (1)) 2 12 (fun _ => False) := by
  refine vx_ofW (cc := cX2_face) (maxL := 5) (ret := (some .long)) (by decide) rfl ?_
  intro p e s m args below meth c s₁ B hml hout hv
  obtain ⟨rfl, ⟨hP, hK, hD0, hKC0, hTC⟩, hXN⟩ := hv
  have hP0 := hP
  have hD : va_D (fun q => q ∈ L) (va_pl L g) := we_D (fun _ h => h) hD0
  have hKC : KC ad (fun q => q ∈ L) s s.heap := hKC0.narrow (fun _ h => Or.inl h)
  have hS : va_S (fun q => q ∈ L) s.heap s.heap [] := va_S.rf
  have hx := B.exec
  have hb := B.bytes
  have hr := B.returns
  have hts := atoms_spec (ws := wsX2_face) B.pre
  have hown : s.vm.findClass RX2 = some m.cls := findClass_of_methodNamed B.named
  have hlocks := B.notSynchronized
  have hl := lv_entry ([.ref ob, .int x1, .int x2]) (n := 5) (Nat.le_of_ble_eq_true rfl)
  rw [lg_entry_eq]
  generalize (lg_sl ([.ref ob, .int x1, .int x2]) ++ List.replicate (5 - (lg_sl ([.ref ob, .int x1, .int x2])).length) Slot.unset).toArray = ls at hl ⊢
  have hl : lv_has ls 5 [(0, .ref ob), (1, .int x1), (2, .int x2)] := hl
  refine lv_aload_n hx hb dX2_face_0 rfl (lv_at hl 0 rfl) ?_
  refine lv_iload_n hx hb dX2_face_1 rfl (lv_at hl 1 rfl) ?_
  refine xp_V (b := ob) (As := [.int x1]) (rest := []) ⟨hx, hb, hml, hown, hts⟩ (c_X2_needleAt_ok l hfl D tys ad L g  ob arr nd made mvs twi tna fa x1 hL_ob hL_arr hg_ob hg_arr htN hia hfa) (cwV 1 hts gX2_face_X2_needleAt rfl rfl rfl hd_X2_needleAt ⟨Nat.le_of_ble_eq_true rfl, Nat.le_of_ble_eq_true rfl⟩) (pg_recv hK hP hL_ob hg_ob rfl) (fun U hU hvm => WM hP hK hD hKC0 hTC hS hU hvm) hXN rfl hl.1 rfl (lv_room (Nat.le_of_ble_eq_true rfl)) dX2_face_2 ⟨Nat.le_of_ble_eq_true rfl, Nat.le_of_ble_eq_true rfl⟩ hout hlocks (fun h9 => absurd rfl h9) (Nat.le_of_ble_eq_true rfl) (Nat.le_of_ble_eq_true rfl) (fun _ => ?_)
  refine W.eq (g2 := F0 m 5 ls [.ref nd]) rfl ?_
  refine lv_astore_n (lv' := [(3, .ref nd), (0, .ref ob), (1, .int x1), (2, .int x2)]) hx hb dX2_face_5 rfl hl (by decide) rfl (fun ls hl => ?_)
  refine lv_aload_n hx hb dX2_face_6 rfl (lv_at hl 1 rfl) ?_
  refine lv_iload_n hx hb dX2_face_7 rfl (lv_at hl 3 rfl) ?_
  exact xp_V (b := ob) (As := [.int x2]) (rest := []) ⟨hx, hb, hml, hown, hts⟩ (c_X2_needleAt_no l hfl D tys ad L g  ob arr made mvs twi tna fa x2 hL_ob hL_arr hg_ob hg_arr htN hab2) (cwV 1 hts gX2_face_X2_needleAt rfl rfl rfl hd_X2_needleAt ⟨Nat.le_of_ble_eq_true rfl, Nat.le_of_ble_eq_true rfl⟩) (pg_recv hK hP hL_ob hg_ob rfl) (fun U hU hvm => WM hP hK hD hKC0 hTC hS hU hvm) hXN rfl hl.1 rfl (lv_room (Nat.le_of_ble_eq_true rfl)) dX2_face_8 ⟨Nat.le_of_ble_eq_true rfl, Nat.le_of_ble_eq_true rfl⟩ hout hlocks (fun _ => rfl) (Nat.le_of_ble_eq_true rfl) (Nat.le_of_ble_eq_true rfl) (fun h9 => absurd h9 (by decide))
def fX2_face (made : Int32) (mvs : Int32) (twi : Int64) (tna : Int32) (fa : Nat → Option Nat) (i : Nat) (nlo : Int64) (nhi : Int64) (nv : Int64) (nst : Int64) (nhs : Int64) (nls : Int64) (ngs : Int64) (i2 : Nat) (mlo : Int64) (mhi : Int64) (mv : Int64) (mst : Int64) (mhs : Int64) (mls : Int64) (mgs : Int64) (x1 : Int32) (x2 : Int32) : Nat × Int64 × Int64 × Int64 × Int64 × Int64 × Int32 :=
  (0, (fX1_moveTo i nlo nhi nv nst nhs nls ngs (fX0_withSideOf i nv mv)).1, (fX1_moveTo i nlo nhi nv nst nhs nls ngs (fX0_withSideOf i nv mv)).1, (fX1_moveTo i nlo nhi nv nst nhs nls ngs (fX0_withSideOf i nv mv)).2.1, (fX1_moveTo i nlo nhi nv nst nhs nls ngs (fX0_withSideOf i nv mv)).2.2.1, (fX1_moveTo i nlo nhi nv nst nhs nls ngs (fX0_withSideOf i nv mv)).2.2.2, mvs + (1 : Int32))
theorem hin_X1_X2_face : ∀ w ∈ wsX10, w ∈ wsX2_face := by decide +kernel
theorem hin_X2_X2_face : ∀ w ∈ wsX20, w ∈ wsX2_face := by decide +kernel
set_option maxHeartbeats 1000000 in
set_option maxRecDepth 100000 in
theorem c_X2_face (l : Launch) (hfl : l.stackTraces = false) {cyN : ClassId} (D : va_G) (tys : List (ClassId × FieldType)) (ad : Nat → Nat) (L : List Nat) (g : Nat → va_E) (ob arr nd nd2 : Nat) (made : Int32) (mvs : Int32) (twi : Int64) (tna : Int32) (fa : Nat → Option Nat) (i : Nat) (nlo : Int64) (nhi : Int64) (nv : Int64) (nst : Int64) (nhs : Int64) (nls : Int64) (ngs : Int64) (i2 : Nat) (mlo : Int64) (mhi : Int64) (mv : Int64) (mst : Int64) (mhs : Int64) (mls : Int64) (mgs : Int64) (x1 : Int32) (x2 : Int32) (hi : i < 2) (hi_i2 : i2 < 2) (hL_ob : ob ∈ L) (hL_arr : arr ∈ L) (hL_nd : nd ∈ L) (hL_nd2 : nd2 ∈ L) (hg_ob : g ob = .inr (2, [.ref arr, .int made, .int mvs, .long twi, .int tna])) (hg_arr : g arr = .inl (cyN, 8, .inr (.inr (.inr (.inr fa))))) (hg_nd : g nd = .inr (1, [.ref (ad i), .long nlo, .long nhi, .long nv, .long nst, .long nhs, .long nls, .long ngs])) (hg_nd2 : g nd2 = .inr (1, [.ref (ad i2), .long mlo, .long mhi, .long mv, .long mst, .long mhs, .long mls, .long mgs])) (ne_ob_nd : ob ≠ nd) (ne_arr_ob : arr ≠ ob) (ne_arr_nd : arr ≠ nd) (ne_nd_ob : nd ≠ ob) (ne_nd2_ob : nd2 ≠ ob) (ne_nd2_nd : nd2 ≠ nd) (htN : tys[2]? = some (cyN, .object RX1)) (hia : vp_in x1 8) (hfa : fa x1.toNatClampNeg = some nd) (hia2 : vp_in x2 8) (hfa2 : fa x2.toNatClampNeg = some nd2) : vx_Met l yX2_face wsX2_face ({ frames := 7, cells := 2, slots := 12, locals := 114 }) (PW D tys ad L g [.ref ob, .int x1, .int x2]) (QEc D tys ad L ((fX2_face made mvs twi tna fa i nlo nhi nv nst nhs nls ngs i2 mlo mhi mv mst mhs mls mgs x1 x2).1) (some (.long ((fX2_face made mvs twi tna fa i nlo nhi nv nst nhs nls ngs i2 mlo mhi mv mst mhs mls mgs x1 x2).2.1))) (fun g1 => g1 nd = .inr (1, [.ref (ad i), .long nlo, .long nhi, .long ((fX2_face made mvs twi tna fa i nlo nhi nv nst nhs nls ngs i2 mlo mhi mv mst mhs mls mgs x1 x2).2.2.1), .long nst, .long ((fX2_face made mvs twi tna fa i nlo nhi nv nst nhs nls ngs i2 mlo mhi mv mst mhs mls mgs x1 x2).2.2.2.1), .long ((fX2_face made mvs twi tna fa i nlo nhi nv nst nhs nls ngs i2 mlo mhi mv mst mhs mls mgs x1 x2).2.2.2.2.1), .long ((fX2_face made mvs twi tna fa i nlo nhi nv nst nhs nls ngs i2 mlo mhi mv mst mhs mls mgs x1 x2).2.2.2.2.2.1)]) ∧ g1 ob = .inr (2, [.ref arr, .int made, .int ((fX2_face made mvs twi tna fa i nlo nhi nv nst nhs nls ngs i2 mlo mhi mv mst mhs mls mgs x1 x2).2.2.2.2.2.2), .long twi, .int tna]) ∧ ∀ q : Nat, q ≠ nd → q ≠ ob → g1 q = g q)) (XW D tys ad L g ((fX2_face made mvs twi tna fa i nlo nhi nv nst nhs nls ngs i2 mlo mhi mv mst mhs mls mgs x1 x2).1)) 2 12 (fun q => q ∈ L) := by
  refine vx_ofW (cc := cX2_face) (maxL := 5) (ret := (some .long)) (by decide) rfl ?_
  intro p e s m args below meth c s₁ B hml hout hv
  obtain ⟨rfl, ⟨hP, hK, hD0, hKC0, hTC⟩, hXN⟩ := hv
  have hP0 := hP
  have hD : va_D (fun q => q ∈ L) (va_pl L g) := we_D (fun _ h => h) hD0
  have hKC : KC ad (fun q => q ∈ L) s s.heap := hKC0.narrow (fun _ h => Or.inl h)
  have hS : va_S (fun q => q ∈ L) s.heap s.heap [] := va_S.rf
  have hx := B.exec
  have hb := B.bytes
  have hr := B.returns
  have hts := atoms_spec (ws := wsX2_face) B.pre
  have hown : s.vm.findClass RX2 = some m.cls := findClass_of_methodNamed B.named
  have hlocks := B.notSynchronized
  have hrs : ∀ q : Nat, q ≠ nd → q ≠ ob → g q = g q := fun q _ _ => rfl
  have hl := lv_entry ([.ref ob, .int x1, .int x2]) (n := 5) (Nat.le_of_ble_eq_true rfl)
  rw [lg_entry_eq]
  generalize (lg_sl ([.ref ob, .int x1, .int x2]) ++ List.replicate (5 - (lg_sl ([.ref ob, .int x1, .int x2])).length) Slot.unset).toArray = ls at hl ⊢
  have hl : lv_has ls 5 [(0, .ref ob), (1, .int x1), (2, .int x2)] := hl
  refine lv_aload_n hx hb dX2_face_0 rfl (lv_at hl 0 rfl) ?_
  refine lv_iload_n hx hb dX2_face_1 rfl (lv_at hl 1 rfl) ?_
  refine xp_V (b := ob) (As := [.int x1]) (rest := []) ⟨hx, hb, hml, hown, hts⟩ (c_X2_needleAt_ok l hfl D tys ad L g  ob arr nd made mvs twi tna fa x1 hL_ob hL_arr hg_ob hg_arr htN hia hfa) (cwV 1 hts gX2_face_X2_needleAt rfl rfl rfl hd_X2_needleAt ⟨Nat.le_of_ble_eq_true rfl, Nat.le_of_ble_eq_true rfl⟩) (pg_recv hK hP hL_ob hg_ob rfl) (fun U hU hvm => WM hP hK hD hKC0 hTC hS hU hvm) hXN rfl hl.1 rfl (lv_room (Nat.le_of_ble_eq_true rfl)) dX2_face_2 ⟨Nat.le_of_ble_eq_true rfl, Nat.le_of_ble_eq_true rfl⟩ hout hlocks (fun h9 => absurd rfl h9) (Nat.le_of_ble_eq_true rfl) (Nat.le_of_ble_eq_true rfl) (fun _ => ?_)
  refine W.eq (g2 := F0 m 5 ls [.ref nd]) rfl ?_
  refine lv_astore_n (lv' := [(3, .ref nd), (0, .ref ob), (1, .int x1), (2, .int x2)]) hx hb dX2_face_5 rfl hl (by decide) rfl (fun ls hl => ?_)
  refine lv_aload_n hx hb dX2_face_6 rfl (lv_at hl 1 rfl) ?_
  refine lv_iload_n hx hb dX2_face_7 rfl (lv_at hl 3 rfl) ?_
  refine xp_V (b := ob) (As := [.int x2]) (rest := []) ⟨hx, hb, hml, hown, hts⟩ (c_X2_needleAt_ok l hfl D tys ad L g  ob arr nd2 made mvs twi tna fa x2 hL_ob hL_arr hg_ob hg_arr htN hia2 hfa2) (cwV 1 hts gX2_face_X2_needleAt rfl rfl rfl hd_X2_needleAt ⟨Nat.le_of_ble_eq_true rfl, Nat.le_of_ble_eq_true rfl⟩) (pg_recv hK hP hL_ob hg_ob rfl) (fun U hU hvm => WM hP hK hD hKC0 hTC hS hU hvm) hXN rfl hl.1 rfl (lv_room (Nat.le_of_ble_eq_true rfl)) dX2_face_8 ⟨Nat.le_of_ble_eq_true rfl, Nat.le_of_ble_eq_true rfl⟩ hout hlocks (fun h9 => absurd rfl h9) (Nat.le_of_ble_eq_true rfl) (Nat.le_of_ble_eq_true rfl) (fun _ => ?_)
  refine W.eq (g2 := F0 m 11 ls [.ref nd2]) rfl ?_
  refine lv_astore (lv' := [(4, .ref nd2), (3, .ref nd), (0, .ref ob), (1, .int x1), (2, .int x2)]) hx hb dX2_face_11 hl (by decide) rfl (fun ls hl => ?_)
  refine lv_aload_n hx hb dX2_face_13 rfl (lv_at hl 1 rfl) ?_
  refine lv_aload_n hx hb dX2_face_14 rfl (lv_at hl 1 rfl) ?_
  refine pg_get hx hb hts hin_X1_X2_face hown hK hP hL_nd hg_nd rfl 0 (by decide) (hts (.fieldLink RX2 55 "NeedleBoard$Needle" "kind" "LNeedleBoard$Kind;") (by decide +kernel)) rfl dX2_face_15 ?_
  refine lv_aload_n hx hb dX2_face_18 rfl (lv_at hl 1 rfl) ?_
  refine pg_get hx hb hts hin_X1_X2_face hown hK hP hL_nd hg_nd rfl 3 (by decide) (hts (.fieldLink RX2 65 "NeedleBoard$Needle" "value" "J") (by decide +kernel)) rfl dX2_face_19 ?_
  refine lv_aload hx hb dX2_face_22 (lv_at hl 0 rfl) ?_
  refine pg_get hx hb hts hin_X1_X2_face hown hK hP hL_nd2 hg_nd2 rfl 3 (by decide) (hts (.fieldLink RX2 65 "NeedleBoard$Needle" "value" "J") (by decide +kernel)) rfl dX2_face_24 ?_
  refine pc_V (i := i) (As := [.long nv, .long mv]) (rest := [.ref nd]) (r := .long (fX0_withSideOf i nv mv)) ⟨hx, hb, hml, hown, hts⟩ (c_X0_withSideOf l ad i hi nv mv) (cwV 2 hts gX2_face_X0_withSideOf rfl rfl rfl hd_X0_withSideOf ⟨Nat.le_of_ble_eq_true rfl, Nat.le_of_ble_eq_true rfl⟩) hKC hS hi rfl hl.1 rfl (lv_room (Nat.le_of_ble_eq_true rfl)) dX2_face_27 ⟨Nat.le_of_ble_eq_true rfl, Nat.le_of_ble_eq_true rfl⟩ ?_
  refine mc_V (b := nd) (As := [.long (fX0_withSideOf i nv mv)]) (rest := []) ⟨hx, hb, hml, hown, hts⟩ (c_X1_moveTo l D tys ad L g  nd i nlo nhi nv nst nhs nls ngs (fX0_withSideOf i nv mv) hi hL_nd hg_nd) (cwV 1 hts gX2_face_X1_moveTo rfl rfl rfl hd_X1_moveTo ⟨Nat.le_of_ble_eq_true rfl, Nat.le_of_ble_eq_true rfl⟩) (pg_recv hK hP hL_nd hg_nd rfl) (fun U hU hvm => WM hP hK hD hKC0 hTC hS hU hvm) hXN hS (fun _ h => h) rfl hl.1 rfl (lv_room (Nat.le_of_ble_eq_true rfl)) dX2_face_30 ⟨Nat.le_of_ble_eq_true rfl, Nat.le_of_ble_eq_true rfl⟩ (fun g1 H locs hp9 hP hD hS => ?_)
  refine W.eq (g2 := F0 m 33 ls []) rfl ?_
  obtain ⟨hn9_nd, hr9⟩ := hp9
  have hg_ob : g1 ob = .inr (2, [.ref arr, .int made, .int mvs, .long twi, .int tna]) := (hr9 ob ne_ob_nd).trans hg_ob
  have hg_arr : g1 arr = .inl (cyN, 8, .inr (.inr (.inr (.inr fa)))) := (hr9 arr ne_arr_nd).trans hg_arr
  have hg_nd : g1 nd = .inr (1, [.ref (ad i), .long nlo, .long nhi, .long ((fX1_moveTo i nlo nhi nv nst nhs nls ngs (fX0_withSideOf i nv mv)).1), .long nst, .long ((fX1_moveTo i nlo nhi nv nst nhs nls ngs (fX0_withSideOf i nv mv)).2.1), .long ((fX1_moveTo i nlo nhi nv nst nhs nls ngs (fX0_withSideOf i nv mv)).2.2.1), .long ((fX1_moveTo i nlo nhi nv nst nhs nls ngs (fX0_withSideOf i nv mv)).2.2.2)]) := hn9_nd
  have hg_nd2 : g1 nd2 = .inr (1, [.ref (ad i2), .long mlo, .long mhi, .long mv, .long mst, .long mhs, .long mls, .long mgs]) := (hr9 nd2 ne_nd2_nd).trans hg_nd2
  have hrs : ∀ q : Nat, q ≠ nd → q ≠ ob → g1 q = g q := fun q h_nd h_ob => (hr9 q h_nd).trans (hrs q h_nd h_ob)
  refine lv_aload_n hx hb dX2_face_33 rfl (lv_at hl 2 rfl) ?_
  refine lv_dup hx hb dX2_face_34 rfl ?_
  refine pg_get hx hb hts hin_X2_X2_face hown hK hP hL_ob hg_ob rfl 2 (by decide) (hts (.fieldLink RX2 62 "NeedleBoard" "moves" "I") (by decide +kernel)) rfl dX2_face_35 ?_
  refine lv_iconst (v := 1) hx hb dX2_face_38 (by decide) ?_
  refine lv_iadd hx hb dX2_face_39 ?_
  refine pg_put (ty := .int) hx hb hts hin_X2_X2_face tyX2 tyX2_ok nmX2 hown hK hP hD hS hL_ob hg_ob rfl 2 (by decide) (hts (.fieldLink RX2 62 "NeedleBoard" "moves" "I") (by decide +kernel)) rfl (by decide +kernel) rfl rfl (Nat.le_of_ble_eq_true rfl) dX2_face_40 (fun H locs hP hD hS => ?_)
  obtain ⟨g2, eg2⟩ : ∃ z : Nat → va_E, z = va_up g1 ob (.inr (2, [.ref arr, .int made, .int (mvs + (1 : Int32)), .long twi, .int tna])) := ⟨_, rfl⟩
  have hP : va_P D vwCl (va_pl L g2) H := by rw [eg2]; exact hP
  have hD : va_D (fun q => q ∈ L) (va_pl L g2) := by rw [eg2]; exact hD
  have hg_ob : g2 ob = .inr (2, [.ref arr, .int made, .int (mvs + (1 : Int32)), .long twi, .int tna]) := by rw [eg2]; exact va_up_self _ _ _
  have hg_arr : g2 arr = .inl (cyN, 8, .inr (.inr (.inr (.inr fa)))) := (congrFun eg2 arr).trans ((va_up_ne _ _ ne_arr_ob).trans hg_arr)
  have hg_nd : g2 nd = .inr (1, [.ref (ad i), .long nlo, .long nhi, .long ((fX1_moveTo i nlo nhi nv nst nhs nls ngs (fX0_withSideOf i nv mv)).1), .long nst, .long ((fX1_moveTo i nlo nhi nv nst nhs nls ngs (fX0_withSideOf i nv mv)).2.1), .long ((fX1_moveTo i nlo nhi nv nst nhs nls ngs (fX0_withSideOf i nv mv)).2.2.1), .long ((fX1_moveTo i nlo nhi nv nst nhs nls ngs (fX0_withSideOf i nv mv)).2.2.2)]) := (congrFun eg2 nd).trans ((va_up_ne _ _ ne_nd_ob).trans hg_nd)
  have hg_nd2 : g2 nd2 = .inr (1, [.ref (ad i2), .long mlo, .long mhi, .long mv, .long mst, .long mhs, .long mls, .long mgs]) := (congrFun eg2 nd2).trans ((va_up_ne _ _ ne_nd2_ob).trans hg_nd2)
  have hrs : ∀ q : Nat, q ≠ nd → q ≠ ob → g2 q = g q := fun q h_nd h_ob => (congrFun eg2 q).trans ((va_up_ne _ _ h_ob).trans (hrs q h_nd h_ob))
  refine lv_aload_n hx hb dX2_face_43 rfl (lv_at hl 1 rfl) ?_
  refine pg_get hx hb hts hin_X1_X2_face hown hK hP hL_nd hg_nd rfl 3 (by decide) (hts (.fieldLink RX2 65 "NeedleBoard$Needle" "value" "J") (by decide +kernel)) rfl dX2_face_44 ?_
  have hF : fX2_face made mvs twi tna fa i nlo nhi nv nst nhs nls ngs i2 mlo mhi mv mst mhs mls mgs x1 x2 = (0, (fX1_moveTo i nlo nhi nv nst nhs nls ngs (fX0_withSideOf i nv mv)).1, (fX1_moveTo i nlo nhi nv nst nhs nls ngs (fX0_withSideOf i nv mv)).1, (fX1_moveTo i nlo nhi nv nst nhs nls ngs (fX0_withSideOf i nv mv)).2.1, (fX1_moveTo i nlo nhi nv nst nhs nls ngs (fX0_withSideOf i nv mv)).2.2.1, (fX1_moveTo i nlo nhi nv nst nhs nls ngs (fX0_withSideOf i nv mv)).2.2.2, mvs + (1 : Int32)) := (by rfl)
  have hF0 : (fX2_face made mvs twi tna fa i nlo nhi nv nst nhs nls ngs i2 mlo mhi mv mst mhs mls mgs x1 x2).1 = 0 := by rw [hF]
  have hF1 : (fX2_face made mvs twi tna fa i nlo nhi nv nst nhs nls ngs i2 mlo mhi mv mst mhs mls mgs x1 x2).2.1 = (fX1_moveTo i nlo nhi nv nst nhs nls ngs (fX0_withSideOf i nv mv)).1 := by rw [hF]
  have hF2 : (fX2_face made mvs twi tna fa i nlo nhi nv nst nhs nls ngs i2 mlo mhi mv mst mhs mls mgs x1 x2).2.2.1 = (fX1_moveTo i nlo nhi nv nst nhs nls ngs (fX0_withSideOf i nv mv)).1 := by rw [hF]
  have hF3 : (fX2_face made mvs twi tna fa i nlo nhi nv nst nhs nls ngs i2 mlo mhi mv mst mhs mls mgs x1 x2).2.2.2.1 = (fX1_moveTo i nlo nhi nv nst nhs nls ngs (fX0_withSideOf i nv mv)).2.1 := by rw [hF]
  have hF4 : (fX2_face made mvs twi tna fa i nlo nhi nv nst nhs nls ngs i2 mlo mhi mv mst mhs mls mgs x1 x2).2.2.2.2.1 = (fX1_moveTo i nlo nhi nv nst nhs nls ngs (fX0_withSideOf i nv mv)).2.2.1 := by rw [hF]
  have hF5 : (fX2_face made mvs twi tna fa i nlo nhi nv nst nhs nls ngs i2 mlo mhi mv mst mhs mls mgs x1 x2).2.2.2.2.2.1 = (fX1_moveTo i nlo nhi nv nst nhs nls ngs (fX0_withSideOf i nv mv)).2.2.2 := by rw [hF]
  have hF6 : (fX2_face made mvs twi tna fa i nlo nhi nv nst nhs nls ngs i2 mlo mhi mv mst mhs mls mgs x1 x2).2.2.2.2.2.2 = mvs + (1 : Int32) := by rw [hF]
  exact vx_ret (W.widen (k := 2) (n := 12) (Nat.le_of_ble_eq_true rfl) (Nat.le_of_ble_eq_true rfl) (W.lret hx hb hr (fun t ht hW => ⟨hF0, congrArg (fun z => Outcome.returned (some (Value.long z))) hF1.symm, ⟨g2, WM hP hK hD hKC0 hTC hS ht hW.alike, by rw [hF2, hF3, hF4, hF5, hF6]; exact ⟨hg_nd, hg_ob, hrs⟩⟩, hS.F ht⟩) (fun q h => hS.2.2 q h) dX2_face_47))
def fX2_face_s (made : Int32) (mvs : Int32) (twi : Int64) (tna : Int32) (fa : Nat → Option Nat) (i : Nat) (nlo : Int64) (nhi : Int64) (nv : Int64) (nst : Int64) (nhs : Int64) (nls : Int64) (ngs : Int64) (x1 : Int32) (x2 : Int32) : Nat × Int64 × Int64 × Int64 × Int64 × Int64 × Int32 :=
  (0, (fX1_moveTo i nlo nhi nv nst nhs nls ngs (fX0_withSideOf i nv nv)).1, (fX1_moveTo i nlo nhi nv nst nhs nls ngs (fX0_withSideOf i nv nv)).1, (fX1_moveTo i nlo nhi nv nst nhs nls ngs (fX0_withSideOf i nv nv)).2.1, (fX1_moveTo i nlo nhi nv nst nhs nls ngs (fX0_withSideOf i nv nv)).2.2.1, (fX1_moveTo i nlo nhi nv nst nhs nls ngs (fX0_withSideOf i nv nv)).2.2.2, mvs + (1 : Int32))
set_option maxHeartbeats 1000000 in
set_option maxRecDepth 100000 in
theorem c_X2_face_s (l : Launch) (hfl : l.stackTraces = false) {cyN : ClassId} (D : va_G) (tys : List (ClassId × FieldType)) (ad : Nat → Nat) (L : List Nat) (g : Nat → va_E) (ob arr nd : Nat) (made : Int32) (mvs : Int32) (twi : Int64) (tna : Int32) (fa : Nat → Option Nat) (i : Nat) (nlo : Int64) (nhi : Int64) (nv : Int64) (nst : Int64) (nhs : Int64) (nls : Int64) (ngs : Int64) (x1 : Int32) (x2 : Int32) (hi : i < 2) (hL_ob : ob ∈ L) (hL_arr : arr ∈ L) (hL_nd : nd ∈ L) (hg_ob : g ob = .inr (2, [.ref arr, .int made, .int mvs, .long twi, .int tna])) (hg_arr : g arr = .inl (cyN, 8, .inr (.inr (.inr (.inr fa))))) (hg_nd : g nd = .inr (1, [.ref (ad i), .long nlo, .long nhi, .long nv, .long nst, .long nhs, .long nls, .long ngs])) (ne_ob_nd : ob ≠ nd) (ne_arr_ob : arr ≠ ob) (ne_arr_nd : arr ≠ nd) (ne_nd_ob : nd ≠ ob) (htN : tys[2]? = some (cyN, .object RX1)) (hia : vp_in x1 8) (hfa : fa x1.toNatClampNeg = some nd) (hia2 : vp_in x2 8) (hfa2 : fa x2.toNatClampNeg = some nd) : vx_Met l yX2_face wsX2_face ({ frames := 7, cells := 2, slots := 12, locals := 114 }) (PW D tys ad L g [.ref ob, .int x1, .int x2]) (QEc D tys ad L ((fX2_face_s made mvs twi tna fa i nlo nhi nv nst nhs nls ngs x1 x2).1) (some (.long ((fX2_face_s made mvs twi tna fa i nlo nhi nv nst nhs nls ngs x1 x2).2.1))) (fun g1 => g1 nd = .inr (1, [.ref (ad i), .long nlo, .long nhi, .long ((fX2_face_s made mvs twi tna fa i nlo nhi nv nst nhs nls ngs x1 x2).2.2.1), .long nst, .long ((fX2_face_s made mvs twi tna fa i nlo nhi nv nst nhs nls ngs x1 x2).2.2.2.1), .long ((fX2_face_s made mvs twi tna fa i nlo nhi nv nst nhs nls ngs x1 x2).2.2.2.2.1), .long ((fX2_face_s made mvs twi tna fa i nlo nhi nv nst nhs nls ngs x1 x2).2.2.2.2.2.1)]) ∧ g1 ob = .inr (2, [.ref arr, .int made, .int ((fX2_face_s made mvs twi tna fa i nlo nhi nv nst nhs nls ngs x1 x2).2.2.2.2.2.2), .long twi, .int tna]) ∧ ∀ q : Nat, q ≠ nd → q ≠ ob → g1 q = g q)) (XW D tys ad L g ((fX2_face_s made mvs twi tna fa i nlo nhi nv nst nhs nls ngs x1 x2).1)) 2 12 (fun q => q ∈ L) := by
  refine vx_ofW (cc := cX2_face) (maxL := 5) (ret := (some .long)) (by decide) rfl ?_
  intro p e s m args below meth c s₁ B hml hout hv
  obtain ⟨rfl, ⟨hP, hK, hD0, hKC0, hTC⟩, hXN⟩ := hv
  have hP0 := hP
  have hD : va_D (fun q => q ∈ L) (va_pl L g) := we_D (fun _ h => h) hD0
  have hKC : KC ad (fun q => q ∈ L) s s.heap := hKC0.narrow (fun _ h => Or.inl h)
  have hS : va_S (fun q => q ∈ L) s.heap s.heap [] := va_S.rf
  have hx := B.exec
  have hb := B.bytes
  have hr := B.returns
  have hts := atoms_spec (ws := wsX2_face) B.pre
  have hown : s.vm.findClass RX2 = some m.cls := findClass_of_methodNamed B.named
  have hlocks := B.notSynchronized
  have hrs : ∀ q : Nat, q ≠ nd → q ≠ ob → g q = g q := fun q _ _ => rfl
  have hl := lv_entry ([.ref ob, .int x1, .int x2]) (n := 5) (Nat.le_of_ble_eq_true rfl)
  rw [lg_entry_eq]
  generalize (lg_sl ([.ref ob, .int x1, .int x2]) ++ List.replicate (5 - (lg_sl ([.ref ob, .int x1, .int x2])).length) Slot.unset).toArray = ls at hl ⊢
  have hl : lv_has ls 5 [(0, .ref ob), (1, .int x1), (2, .int x2)] := hl
  refine lv_aload_n hx hb dX2_face_0 rfl (lv_at hl 0 rfl) ?_
  refine lv_iload_n hx hb dX2_face_1 rfl (lv_at hl 1 rfl) ?_
  refine xp_V (b := ob) (As := [.int x1]) (rest := []) ⟨hx, hb, hml, hown, hts⟩ (c_X2_needleAt_ok l hfl D tys ad L g  ob arr nd made mvs twi tna fa x1 hL_ob hL_arr hg_ob hg_arr htN hia hfa) (cwV 1 hts gX2_face_X2_needleAt rfl rfl rfl hd_X2_needleAt ⟨Nat.le_of_ble_eq_true rfl, Nat.le_of_ble_eq_true rfl⟩) (pg_recv hK hP hL_ob hg_ob rfl) (fun U hU hvm => WM hP hK hD hKC0 hTC hS hU hvm) hXN rfl hl.1 rfl (lv_room (Nat.le_of_ble_eq_true rfl)) dX2_face_2 ⟨Nat.le_of_ble_eq_true rfl, Nat.le_of_ble_eq_true rfl⟩ hout hlocks (fun h9 => absurd rfl h9) (Nat.le_of_ble_eq_true rfl) (Nat.le_of_ble_eq_true rfl) (fun _ => ?_)
  refine W.eq (g2 := F0 m 5 ls [.ref nd]) rfl ?_
  refine lv_astore_n (lv' := [(3, .ref nd), (0, .ref ob), (1, .int x1), (2, .int x2)]) hx hb dX2_face_5 rfl hl (by decide) rfl (fun ls hl => ?_)
  refine lv_aload_n hx hb dX2_face_6 rfl (lv_at hl 1 rfl) ?_
  refine lv_iload_n hx hb dX2_face_7 rfl (lv_at hl 3 rfl) ?_
  refine xp_V (b := ob) (As := [.int x2]) (rest := []) ⟨hx, hb, hml, hown, hts⟩ (c_X2_needleAt_ok l hfl D tys ad L g  ob arr nd made mvs twi tna fa x2 hL_ob hL_arr hg_ob hg_arr htN hia2 hfa2) (cwV 1 hts gX2_face_X2_needleAt rfl rfl rfl hd_X2_needleAt ⟨Nat.le_of_ble_eq_true rfl, Nat.le_of_ble_eq_true rfl⟩) (pg_recv hK hP hL_ob hg_ob rfl) (fun U hU hvm => WM hP hK hD hKC0 hTC hS hU hvm) hXN rfl hl.1 rfl (lv_room (Nat.le_of_ble_eq_true rfl)) dX2_face_8 ⟨Nat.le_of_ble_eq_true rfl, Nat.le_of_ble_eq_true rfl⟩ hout hlocks (fun h9 => absurd rfl h9) (Nat.le_of_ble_eq_true rfl) (Nat.le_of_ble_eq_true rfl) (fun _ => ?_)
  refine W.eq (g2 := F0 m 11 ls [.ref nd]) rfl ?_
  refine lv_astore (lv' := [(4, .ref nd), (3, .ref nd), (0, .ref ob), (1, .int x1), (2, .int x2)]) hx hb dX2_face_11 hl (by decide) rfl (fun ls hl => ?_)
  refine lv_aload_n hx hb dX2_face_13 rfl (lv_at hl 1 rfl) ?_
  refine lv_aload_n hx hb dX2_face_14 rfl (lv_at hl 1 rfl) ?_
  refine pg_get hx hb hts hin_X1_X2_face hown hK hP hL_nd hg_nd rfl 0 (by decide) (hts (.fieldLink RX2 55 "NeedleBoard$Needle" "kind" "LNeedleBoard$Kind;") (by decide +kernel)) rfl dX2_face_15 ?_
  refine lv_aload_n hx hb dX2_face_18 rfl (lv_at hl 1 rfl) ?_
  refine pg_get hx hb hts hin_X1_X2_face hown hK hP hL_nd hg_nd rfl 3 (by decide) (hts (.fieldLink RX2 65 "NeedleBoard$Needle" "value" "J") (by decide +kernel)) rfl dX2_face_19 ?_
  refine lv_aload hx hb dX2_face_22 (lv_at hl 0 rfl) ?_
  refine pg_get hx hb hts hin_X1_X2_face hown hK hP hL_nd hg_nd rfl 3 (by decide) (hts (.fieldLink RX2 65 "NeedleBoard$Needle" "value" "J") (by decide +kernel)) rfl dX2_face_24 ?_
  refine pc_V (i := i) (As := [.long nv, .long nv]) (rest := [.ref nd]) (r := .long (fX0_withSideOf i nv nv)) ⟨hx, hb, hml, hown, hts⟩ (c_X0_withSideOf l ad i hi nv nv) (cwV 2 hts gX2_face_X0_withSideOf rfl rfl rfl hd_X0_withSideOf ⟨Nat.le_of_ble_eq_true rfl, Nat.le_of_ble_eq_true rfl⟩) hKC hS hi rfl hl.1 rfl (lv_room (Nat.le_of_ble_eq_true rfl)) dX2_face_27 ⟨Nat.le_of_ble_eq_true rfl, Nat.le_of_ble_eq_true rfl⟩ ?_
  refine mc_V (b := nd) (As := [.long (fX0_withSideOf i nv nv)]) (rest := []) ⟨hx, hb, hml, hown, hts⟩ (c_X1_moveTo l D tys ad L g  nd i nlo nhi nv nst nhs nls ngs (fX0_withSideOf i nv nv) hi hL_nd hg_nd) (cwV 1 hts gX2_face_X1_moveTo rfl rfl rfl hd_X1_moveTo ⟨Nat.le_of_ble_eq_true rfl, Nat.le_of_ble_eq_true rfl⟩) (pg_recv hK hP hL_nd hg_nd rfl) (fun U hU hvm => WM hP hK hD hKC0 hTC hS hU hvm) hXN hS (fun _ h => h) rfl hl.1 rfl (lv_room (Nat.le_of_ble_eq_true rfl)) dX2_face_30 ⟨Nat.le_of_ble_eq_true rfl, Nat.le_of_ble_eq_true rfl⟩ (fun g1 H locs hp9 hP hD hS => ?_)
  refine W.eq (g2 := F0 m 33 ls []) rfl ?_
  obtain ⟨hn9_nd, hr9⟩ := hp9
  have hg_ob : g1 ob = .inr (2, [.ref arr, .int made, .int mvs, .long twi, .int tna]) := (hr9 ob ne_ob_nd).trans hg_ob
  have hg_arr : g1 arr = .inl (cyN, 8, .inr (.inr (.inr (.inr fa)))) := (hr9 arr ne_arr_nd).trans hg_arr
  have hg_nd : g1 nd = .inr (1, [.ref (ad i), .long nlo, .long nhi, .long ((fX1_moveTo i nlo nhi nv nst nhs nls ngs (fX0_withSideOf i nv nv)).1), .long nst, .long ((fX1_moveTo i nlo nhi nv nst nhs nls ngs (fX0_withSideOf i nv nv)).2.1), .long ((fX1_moveTo i nlo nhi nv nst nhs nls ngs (fX0_withSideOf i nv nv)).2.2.1), .long ((fX1_moveTo i nlo nhi nv nst nhs nls ngs (fX0_withSideOf i nv nv)).2.2.2)]) := hn9_nd
  have hrs : ∀ q : Nat, q ≠ nd → q ≠ ob → g1 q = g q := fun q h_nd h_ob => (hr9 q h_nd).trans (hrs q h_nd h_ob)
  refine lv_aload_n hx hb dX2_face_33 rfl (lv_at hl 2 rfl) ?_
  refine lv_dup hx hb dX2_face_34 rfl ?_
  refine pg_get hx hb hts hin_X2_X2_face hown hK hP hL_ob hg_ob rfl 2 (by decide) (hts (.fieldLink RX2 62 "NeedleBoard" "moves" "I") (by decide +kernel)) rfl dX2_face_35 ?_
  refine lv_iconst (v := 1) hx hb dX2_face_38 (by decide) ?_
  refine lv_iadd hx hb dX2_face_39 ?_
  refine pg_put (ty := .int) hx hb hts hin_X2_X2_face tyX2 tyX2_ok nmX2 hown hK hP hD hS hL_ob hg_ob rfl 2 (by decide) (hts (.fieldLink RX2 62 "NeedleBoard" "moves" "I") (by decide +kernel)) rfl (by decide +kernel) rfl rfl (Nat.le_of_ble_eq_true rfl) dX2_face_40 (fun H locs hP hD hS => ?_)
  obtain ⟨g2, eg2⟩ : ∃ z : Nat → va_E, z = va_up g1 ob (.inr (2, [.ref arr, .int made, .int (mvs + (1 : Int32)), .long twi, .int tna])) := ⟨_, rfl⟩
  have hP : va_P D vwCl (va_pl L g2) H := by rw [eg2]; exact hP
  have hD : va_D (fun q => q ∈ L) (va_pl L g2) := by rw [eg2]; exact hD
  have hg_ob : g2 ob = .inr (2, [.ref arr, .int made, .int (mvs + (1 : Int32)), .long twi, .int tna]) := by rw [eg2]; exact va_up_self _ _ _
  have hg_arr : g2 arr = .inl (cyN, 8, .inr (.inr (.inr (.inr fa)))) := (congrFun eg2 arr).trans ((va_up_ne _ _ ne_arr_ob).trans hg_arr)
  have hg_nd : g2 nd = .inr (1, [.ref (ad i), .long nlo, .long nhi, .long ((fX1_moveTo i nlo nhi nv nst nhs nls ngs (fX0_withSideOf i nv nv)).1), .long nst, .long ((fX1_moveTo i nlo nhi nv nst nhs nls ngs (fX0_withSideOf i nv nv)).2.1), .long ((fX1_moveTo i nlo nhi nv nst nhs nls ngs (fX0_withSideOf i nv nv)).2.2.1), .long ((fX1_moveTo i nlo nhi nv nst nhs nls ngs (fX0_withSideOf i nv nv)).2.2.2)]) := (congrFun eg2 nd).trans ((va_up_ne _ _ ne_nd_ob).trans hg_nd)
  have hrs : ∀ q : Nat, q ≠ nd → q ≠ ob → g2 q = g q := fun q h_nd h_ob => (congrFun eg2 q).trans ((va_up_ne _ _ h_ob).trans (hrs q h_nd h_ob))
  refine lv_aload_n hx hb dX2_face_43 rfl (lv_at hl 1 rfl) ?_
  refine pg_get hx hb hts hin_X1_X2_face hown hK hP hL_nd hg_nd rfl 3 (by decide) (hts (.fieldLink RX2 65 "NeedleBoard$Needle" "value" "J") (by decide +kernel)) rfl dX2_face_44 ?_
  have hF : fX2_face_s made mvs twi tna fa i nlo nhi nv nst nhs nls ngs x1 x2 = (0, (fX1_moveTo i nlo nhi nv nst nhs nls ngs (fX0_withSideOf i nv nv)).1, (fX1_moveTo i nlo nhi nv nst nhs nls ngs (fX0_withSideOf i nv nv)).1, (fX1_moveTo i nlo nhi nv nst nhs nls ngs (fX0_withSideOf i nv nv)).2.1, (fX1_moveTo i nlo nhi nv nst nhs nls ngs (fX0_withSideOf i nv nv)).2.2.1, (fX1_moveTo i nlo nhi nv nst nhs nls ngs (fX0_withSideOf i nv nv)).2.2.2, mvs + (1 : Int32)) := (by rfl)
  have hF0 : (fX2_face_s made mvs twi tna fa i nlo nhi nv nst nhs nls ngs x1 x2).1 = 0 := by rw [hF]
  have hF1 : (fX2_face_s made mvs twi tna fa i nlo nhi nv nst nhs nls ngs x1 x2).2.1 = (fX1_moveTo i nlo nhi nv nst nhs nls ngs (fX0_withSideOf i nv nv)).1 := by rw [hF]
  have hF2 : (fX2_face_s made mvs twi tna fa i nlo nhi nv nst nhs nls ngs x1 x2).2.2.1 = (fX1_moveTo i nlo nhi nv nst nhs nls ngs (fX0_withSideOf i nv nv)).1 := by rw [hF]
  have hF3 : (fX2_face_s made mvs twi tna fa i nlo nhi nv nst nhs nls ngs x1 x2).2.2.2.1 = (fX1_moveTo i nlo nhi nv nst nhs nls ngs (fX0_withSideOf i nv nv)).2.1 := by rw [hF]
  have hF4 : (fX2_face_s made mvs twi tna fa i nlo nhi nv nst nhs nls ngs x1 x2).2.2.2.2.1 = (fX1_moveTo i nlo nhi nv nst nhs nls ngs (fX0_withSideOf i nv nv)).2.2.1 := by rw [hF]
  have hF5 : (fX2_face_s made mvs twi tna fa i nlo nhi nv nst nhs nls ngs x1 x2).2.2.2.2.2.1 = (fX1_moveTo i nlo nhi nv nst nhs nls ngs (fX0_withSideOf i nv nv)).2.2.2 := by rw [hF]
  have hF6 : (fX2_face_s made mvs twi tna fa i nlo nhi nv nst nhs nls ngs x1 x2).2.2.2.2.2.2 = mvs + (1 : Int32) := by rw [hF]
  exact vx_ret (W.widen (k := 2) (n := 12) (Nat.le_of_ble_eq_true rfl) (Nat.le_of_ble_eq_true rfl) (W.lret hx hb hr (fun t ht hW => ⟨hF0, congrArg (fun z => Outcome.returned (some (Value.long z))) hF1.symm, ⟨g2, WM hP hK hD hKC0 hTC hS ht hW.alike, by rw [hF2, hF3, hF4, hF5, hF6]; exact ⟨hg_nd, hg_ob, hrs⟩⟩, hS.F ht⟩) (fun q h => hS.2.2 q h) dX2_face_47))
theorem hd_X2_between : yX2_between.cls = RX2 ∧ yX2_between.cls ≠ "java/lang/invoke/MethodHandle" ∧ yX2_between.cls ≠ "java/lang/invoke/VarHandle" ∧ (parseMethodDescriptor yX2_between.desc).map (fun d => d.parameters.length) = some 3 := by decide +kernel
set_option maxHeartbeats 1000000 in
set_option maxRecDepth 100000 in
theorem c_X2_between_no (l : Launch) (hfl : l.stackTraces = false) {cyN : ClassId} (D : va_G) (tys : List (ClassId × FieldType)) (ad : Nat → Nat) (L : List Nat) (g : Nat → va_E) (ob arr : Nat) (made : Int32) (mvs : Int32) (twi : Int64) (tna : Int32) (fa : Nat → Option Nat) (x1 : Int32) (x2 : Int32) (x3 : Int32) (hL_ob : ob ∈ L) (hL_arr : arr ∈ L) (hg_ob : g ob = .inr (2, [.ref arr, .int made, .int mvs, .long twi, .int tna])) (hg_arr : g arr = .inl (cyN, 8, .inr (.inr (.inr (.inr fa))))) (htN : tys[2]? = some (cyN, .object RX1)) (hab : ¬ vp_in x1 8 ∨ fa x1.toNatClampNeg = none) : vx_Met l yX2_between wsX2_between ({ frames := 7, cells := 1, slots := 6, locals := 104 }) (PW D tys ad L g [.ref ob, .int x1, .int x2, .int x3]) (QR (1) none) (XW D tys ad L g (1)) 1 6 (fun _ => False) := by
  refine vx_ofW (cc := cX2_between) (maxL := 7) (ret := (some .long)) (by decide) rfl ?_
  intro p e s m args below meth c s₁ B hml hout hv
  obtain ⟨rfl, ⟨hP, hK, hD0, hKC0, hTC⟩, hXN⟩ := hv
  have hP0 := hP
  have hD : va_D (fun q => q ∈ L) (va_pl L g) := we_D (fun _ h => h) hD0
  have hKC : KC ad (fun q => q ∈ L) s s.heap := hKC0.narrow (fun _ h => Or.inl h)
  have hS : va_S (fun q => q ∈ L) s.heap s.heap [] := va_S.rf
  have hx := B.exec
  have hb := B.bytes
  have hr := B.returns
  have hts := atoms_spec (ws := wsX2_between) B.pre
  have hown : s.vm.findClass RX2 = some m.cls := findClass_of_methodNamed B.named
  have hlocks := B.notSynchronized
  have hl := lv_entry ([.ref ob, .int x1, .int x2, .int x3]) (n := 7) (Nat.le_of_ble_eq_true rfl)
  rw [lg_entry_eq]
  generalize (lg_sl ([.ref ob, .int x1, .int x2, .int x3]) ++ List.replicate (7 - (lg_sl ([.ref ob, .int x1, .int x2, .int x3])).length) Slot.unset).toArray = ls at hl ⊢
  have hl : lv_has ls 7 [(0, .ref ob), (1, .int x1), (2, .int x2), (3, .int x3)] := hl
  refine lv_aload_n hx hb dX2_between_0 rfl (lv_at hl 0 rfl) ?_
  refine lv_iload_n hx hb dX2_between_1 rfl (lv_at hl 1 rfl) ?_
  exact xp_V (b := ob) (As := [.int x1]) (rest := []) ⟨hx, hb, hml, hown, hts⟩ (c_X2_needleAt_no l hfl D tys ad L g  ob arr made mvs twi tna fa x1 hL_ob hL_arr hg_ob hg_arr htN hab) (cwV 1 hts gX2_between_X2_needleAt rfl rfl rfl hd_X2_needleAt ⟨Nat.le_of_ble_eq_true rfl, Nat.le_of_ble_eq_true rfl⟩) (pg_recv hK hP hL_ob hg_ob rfl) (fun U hU hvm => WM hP hK hD hKC0 hTC hS hU hvm) hXN rfl hl.1 rfl (lv_room (Nat.le_of_ble_eq_true rfl)) dX2_between_2 ⟨Nat.le_of_ble_eq_true rfl, Nat.le_of_ble_eq_true rfl⟩ hout hlocks (fun _ => rfl) (Nat.le_of_ble_eq_true rfl) (Nat.le_of_ble_eq_true rfl) (fun h9 => absurd h9 (by decide))
set_option maxHeartbeats 1000000 in
set_option maxRecDepth 100000 in
theorem c_X2_between_no2 (l : Launch) (hfl : l.stackTraces = false) {cyN : ClassId} (D : va_G) (tys : List (ClassId × FieldType)) (ad : Nat → Nat) (L : List Nat) (g : Nat → va_E) (ob arr nd : Nat) (made : Int32) (mvs : Int32) (twi : Int64) (tna : Int32) (fa : Nat → Option Nat) (i : Nat) (nlo : Int64) (nhi : Int64) (nv : Int64) (nst : Int64) (nhs : Int64) (nls : Int64) (ngs : Int64) (x1 : Int32) (x2 : Int32) (x3 : Int32) (hi : i < 2) (hL_ob : ob ∈ L) (hL_arr : arr ∈ L) (hL_nd : nd ∈ L) (hg_ob : g ob = .inr (2, [.ref arr, .int made, .int mvs, .long twi, .int tna])) (hg_arr : g arr = .inl (cyN, 8, .inr (.inr (.inr (.inr fa))))) (hg_nd : g nd = .inr (1, [.ref (ad i), .long nlo, .long nhi, .long nv, .long nst, .long nhs, .long nls, .long ngs])) (htN : tys[2]? = some (cyN, .object RX1)) (hia : vp_in x1 8) (hfa : fa x1.toNatClampNeg = some nd) (hab2 : ¬ vp_in x2 8 ∨ fa x2.toNatClampNeg = none) : vx_Met l yX2_between wsX2_between ({ frames := 7, cells := 2, slots := 12, locals := 104 }) (PW D tys ad L g [.ref ob, .int x1, .int x2, .int x3]) (QR (1) none) (XW D tys ad L g (1)) 2 12 (fun _ => False) := by
  refine vx_ofW (cc := cX2_between) (maxL := 7) (ret := (some .long)) (by decide) rfl ?_
  intro p e s m args below meth c s₁ B hml hout hv
  obtain ⟨rfl, ⟨hP, hK, hD0, hKC0, hTC⟩, hXN⟩ := hv
  have hP0 := hP
  have hD : va_D (fun q => q ∈ L) (va_pl L g) := we_D (fun _ h => h) hD0
  have hKC : KC ad (fun q => q ∈ L) s s.heap := hKC0.narrow (fun _ h => Or.inl h)
  have hS : va_S (fun q => q ∈ L) s.heap s.heap [] := va_S.rf
  have hx := B.exec
  have hb := B.bytes
  have hr := B.returns
  have hts := atoms_spec (ws := wsX2_between) B.pre
  have hown : s.vm.findClass RX2 = some m.cls := findClass_of_methodNamed B.named
  have hlocks := B.notSynchronized
  have hl := lv_entry ([.ref ob, .int x1, .int x2, .int x3]) (n := 7) (Nat.le_of_ble_eq_true rfl)
  rw [lg_entry_eq]
  generalize (lg_sl ([.ref ob, .int x1, .int x2, .int x3]) ++ List.replicate (7 - (lg_sl ([.ref ob, .int x1, .int x2, .int x3])).length) Slot.unset).toArray = ls at hl ⊢
  have hl : lv_has ls 7 [(0, .ref ob), (1, .int x1), (2, .int x2), (3, .int x3)] := hl
  refine lv_aload_n hx hb dX2_between_0 rfl (lv_at hl 0 rfl) ?_
  refine lv_iload_n hx hb dX2_between_1 rfl (lv_at hl 1 rfl) ?_
  refine xp_V (b := ob) (As := [.int x1]) (rest := []) ⟨hx, hb, hml, hown, hts⟩ (c_X2_needleAt_ok l hfl D tys ad L g  ob arr nd made mvs twi tna fa x1 hL_ob hL_arr hg_ob hg_arr htN hia hfa) (cwV 1 hts gX2_between_X2_needleAt rfl rfl rfl hd_X2_needleAt ⟨Nat.le_of_ble_eq_true rfl, Nat.le_of_ble_eq_true rfl⟩) (pg_recv hK hP hL_ob hg_ob rfl) (fun U hU hvm => WM hP hK hD hKC0 hTC hS hU hvm) hXN rfl hl.1 rfl (lv_room (Nat.le_of_ble_eq_true rfl)) dX2_between_2 ⟨Nat.le_of_ble_eq_true rfl, Nat.le_of_ble_eq_true rfl⟩ hout hlocks (fun h9 => absurd rfl h9) (Nat.le_of_ble_eq_true rfl) (Nat.le_of_ble_eq_true rfl) (fun _ => ?_)
  refine W.eq (g2 := F0 m 5 ls [.ref nd]) rfl ?_
  refine lv_astore (lv' := [(4, .ref nd), (0, .ref ob), (1, .int x1), (2, .int x2), (3, .int x3)]) hx hb dX2_between_5 hl (by decide) rfl (fun ls hl => ?_)
  refine lv_aload_n hx hb dX2_between_7 rfl (lv_at hl 1 rfl) ?_
  refine lv_iload_n hx hb dX2_between_8 rfl (lv_at hl 3 rfl) ?_
  exact xp_V (b := ob) (As := [.int x2]) (rest := []) ⟨hx, hb, hml, hown, hts⟩ (c_X2_needleAt_no l hfl D tys ad L g  ob arr made mvs twi tna fa x2 hL_ob hL_arr hg_ob hg_arr htN hab2) (cwV 1 hts gX2_between_X2_needleAt rfl rfl rfl hd_X2_needleAt ⟨Nat.le_of_ble_eq_true rfl, Nat.le_of_ble_eq_true rfl⟩) (pg_recv hK hP hL_ob hg_ob rfl) (fun U hU hvm => WM hP hK hD hKC0 hTC hS hU hvm) hXN rfl hl.1 rfl (lv_room (Nat.le_of_ble_eq_true rfl)) dX2_between_9 ⟨Nat.le_of_ble_eq_true rfl, Nat.le_of_ble_eq_true rfl⟩ hout hlocks (fun _ => rfl) (Nat.le_of_ble_eq_true rfl) (Nat.le_of_ble_eq_true rfl) (fun h9 => absurd h9 (by decide))
def fX2_between (made : Int32) (mvs : Int32) (twi : Int64) (tna : Int32) (fa : Nat → Option Nat) (i : Nat) (nlo : Int64) (nhi : Int64) (nv : Int64) (nst : Int64) (nhs : Int64) (nls : Int64) (ngs : Int64) (i2 : Nat) (mlo : Int64) (mhi : Int64) (mv : Int64) (mst : Int64) (mhs : Int64) (mls : Int64) (mgs : Int64) (x1 : Int32) (x2 : Int32) (x3 : Int32) : Nat × Int64 :=
  if i = i2 then
    if x3 = 0 then
      (0, fX0_lesserOf i nv mv)
    else
      if x3 = 1 then
        (0, fX0_greaterOf i nv mv)
      else
        if x3 = 2 then
          (0, if (fX0_sizeOf i mv) < (fX0_sizeOf i nv) then (fX0_sizeOf i mv) else (fX0_sizeOf i nv))
        else
          if x3 = 3 then
            (0, if (fX0_sizeOf i mv) < (fX0_sizeOf i nv) then (fX0_sizeOf i nv) else (fX0_sizeOf i mv))
          else
            (2, (0 : Int64))
  else
    (2, (0 : Int64))
theorem hin_X1_X2_between : ∀ w ∈ wsX10, w ∈ wsX2_between := by decide +kernel
theorem hgA_X2_between : ∀ w ∈ (vx_atS RX2 36 "java/lang/IllegalArgumentException" ["java/lang/RuntimeException", "java/lang/Exception"]).filter goodWord, w ∈ wsX2_between := by
  intro w h
  simp only [wsX2_between, List.mem_cons, List.mem_append]
  simp only [h, or_true, true_or]
set_option maxHeartbeats 1000000 in
set_option maxRecDepth 100000 in
theorem c_X2_between (l : Launch) (hfl : l.stackTraces = false) {cyN : ClassId} (D : va_G) (tys : List (ClassId × FieldType)) (ad : Nat → Nat) (L : List Nat) (g : Nat → va_E) (ob arr nd nd2 : Nat) (made : Int32) (mvs : Int32) (twi : Int64) (tna : Int32) (fa : Nat → Option Nat) (i : Nat) (nlo : Int64) (nhi : Int64) (nv : Int64) (nst : Int64) (nhs : Int64) (nls : Int64) (ngs : Int64) (i2 : Nat) (mlo : Int64) (mhi : Int64) (mv : Int64) (mst : Int64) (mhs : Int64) (mls : Int64) (mgs : Int64) (x1 : Int32) (x2 : Int32) (x3 : Int32) (hi : i < 2) (hi_i2 : i2 < 2) (hL_ob : ob ∈ L) (hL_arr : arr ∈ L) (hL_nd : nd ∈ L) (hL_nd2 : nd2 ∈ L) (hg_ob : g ob = .inr (2, [.ref arr, .int made, .int mvs, .long twi, .int tna])) (hg_arr : g arr = .inl (cyN, 8, .inr (.inr (.inr (.inr fa))))) (hg_nd : g nd = .inr (1, [.ref (ad i), .long nlo, .long nhi, .long nv, .long nst, .long nhs, .long nls, .long ngs])) (hg_nd2 : g nd2 = .inr (1, [.ref (ad i2), .long mlo, .long mhi, .long mv, .long mst, .long mhs, .long mls, .long mgs])) (htN : tys[2]? = some (cyN, .object RX1)) (hia : vp_in x1 8) (hfa : fa x1.toNatClampNeg = some nd) (hia2 : vp_in x2 8) (hfa2 : fa x2.toNatClampNeg = some nd2) : vx_Met l yX2_between wsX2_between ({ frames := 7, cells := 3, slots := 18, locals := 104 }) (PW D tys ad L g [.ref ob, .int x1, .int x2, .int x3]) (QR ((fX2_between made mvs twi tna fa i nlo nhi nv nst nhs nls ngs i2 mlo mhi mv mst mhs mls mgs x1 x2 x3).1) (some (.long ((fX2_between made mvs twi tna fa i nlo nhi nv nst nhs nls ngs i2 mlo mhi mv mst mhs mls mgs x1 x2 x3).2)))) (XW D tys ad L g ((fX2_between made mvs twi tna fa i nlo nhi nv nst nhs nls ngs i2 mlo mhi mv mst mhs mls mgs x1 x2 x3).1)) 3 18 (fun _ => False) := by
  refine vx_ofW (cc := cX2_between) (maxL := 7) (ret := (some .long)) (by decide) rfl ?_
  intro p e s m args below meth c s₁ B hml hout hv
  obtain ⟨rfl, ⟨hP, hK, hD0, hKC0, hTC⟩, hXN⟩ := hv
  have hP0 := hP
  have hD : va_D (fun q => q ∈ L) (va_pl L g) := we_D (fun _ h => h) hD0
  have hKC : KC ad (fun q => q ∈ L) s s.heap := hKC0.narrow (fun _ h => Or.inl h)
  have hS : va_S (fun q => q ∈ L) s.heap s.heap [] := va_S.rf
  have hx := B.exec
  have hb := B.bytes
  have hr := B.returns
  have hts := atoms_spec (ws := wsX2_between) B.pre
  have hown : s.vm.findClass RX2 = some m.cls := findClass_of_methodNamed B.named
  have hlocks := B.notSynchronized
  have hl := lv_entry ([.ref ob, .int x1, .int x2, .int x3]) (n := 7) (Nat.le_of_ble_eq_true rfl)
  rw [lg_entry_eq]
  generalize (lg_sl ([.ref ob, .int x1, .int x2, .int x3]) ++ List.replicate (7 - (lg_sl ([.ref ob, .int x1, .int x2, .int x3])).length) Slot.unset).toArray = ls at hl ⊢
  have hl : lv_has ls 7 [(0, .ref ob), (1, .int x1), (2, .int x2), (3, .int x3)] := hl
  refine lv_aload_n hx hb dX2_between_0 rfl (lv_at hl 0 rfl) ?_
  refine lv_iload_n hx hb dX2_between_1 rfl (lv_at hl 1 rfl) ?_
  refine xp_V (b := ob) (As := [.int x1]) (rest := []) ⟨hx, hb, hml, hown, hts⟩ (c_X2_needleAt_ok l hfl D tys ad L g  ob arr nd made mvs twi tna fa x1 hL_ob hL_arr hg_ob hg_arr htN hia hfa) (cwV 1 hts gX2_between_X2_needleAt rfl rfl rfl hd_X2_needleAt ⟨Nat.le_of_ble_eq_true rfl, Nat.le_of_ble_eq_true rfl⟩) (pg_recv hK hP hL_ob hg_ob rfl) (fun U hU hvm => WM hP hK hD hKC0 hTC hS hU hvm) hXN rfl hl.1 rfl (lv_room (Nat.le_of_ble_eq_true rfl)) dX2_between_2 ⟨Nat.le_of_ble_eq_true rfl, Nat.le_of_ble_eq_true rfl⟩ hout hlocks (fun h9 => absurd rfl h9) (Nat.le_of_ble_eq_true rfl) (Nat.le_of_ble_eq_true rfl) (fun _ => ?_)
  refine W.eq (g2 := F0 m 5 ls [.ref nd]) rfl ?_
  refine lv_astore (lv' := [(4, .ref nd), (0, .ref ob), (1, .int x1), (2, .int x2), (3, .int x3)]) hx hb dX2_between_5 hl (by decide) rfl (fun ls hl => ?_)
  refine lv_aload_n hx hb dX2_between_7 rfl (lv_at hl 1 rfl) ?_
  refine lv_iload_n hx hb dX2_between_8 rfl (lv_at hl 3 rfl) ?_
  refine xp_V (b := ob) (As := [.int x2]) (rest := []) ⟨hx, hb, hml, hown, hts⟩ (c_X2_needleAt_ok l hfl D tys ad L g  ob arr nd2 made mvs twi tna fa x2 hL_ob hL_arr hg_ob hg_arr htN hia2 hfa2) (cwV 1 hts gX2_between_X2_needleAt rfl rfl rfl hd_X2_needleAt ⟨Nat.le_of_ble_eq_true rfl, Nat.le_of_ble_eq_true rfl⟩) (pg_recv hK hP hL_ob hg_ob rfl) (fun U hU hvm => WM hP hK hD hKC0 hTC hS hU hvm) hXN rfl hl.1 rfl (lv_room (Nat.le_of_ble_eq_true rfl)) dX2_between_9 ⟨Nat.le_of_ble_eq_true rfl, Nat.le_of_ble_eq_true rfl⟩ hout hlocks (fun h9 => absurd rfl h9) (Nat.le_of_ble_eq_true rfl) (Nat.le_of_ble_eq_true rfl) (fun _ => ?_)
  refine W.eq (g2 := F0 m 12 ls [.ref nd2]) rfl ?_
  refine lv_astore (lv' := [(5, .ref nd2), (4, .ref nd), (0, .ref ob), (1, .int x1), (2, .int x2), (3, .int x3)]) hx hb dX2_between_12 hl (by decide) rfl (fun ls hl => ?_)
  refine lv_aload hx hb dX2_between_14 (lv_at hl 1 rfl) ?_
  refine pg_get hx hb hts hin_X1_X2_between hown hK hP hL_nd hg_nd rfl 0 (by decide) (hts (.fieldLink RX2 55 "NeedleBoard$Needle" "kind" "LNeedleBoard$Kind;") (by decide +kernel)) rfl dX2_between_16 ?_
  refine lv_astore (lv' := [(6, .ref (ad i)), (5, .ref nd2), (4, .ref nd), (0, .ref ob), (1, .int x1), (2, .int x2), (3, .int x3)]) hx hb dX2_between_19 hl (by decide) rfl (fun ls hl => ?_)
  refine lv_aload hx hb dX2_between_21 (lv_at hl 0 rfl) ?_
  refine lv_aload hx hb dX2_between_23 (lv_at hl 1 rfl) ?_
  refine pg_get hx hb hts hin_X1_X2_between hown hK hP hL_nd2 hg_nd2 rfl 0 (by decide) (hts (.fieldLink RX2 55 "NeedleBoard$Needle" "kind" "LNeedleBoard$Kind;") (by decide +kernel)) rfl dX2_between_25 ?_
  refine pa_eq (tgt := 41) hx hb hKC hi hi_i2 dX2_between_28 (by decide) (fun c_3 => ?_) (fun c_3 => ?_)
  · refine lv_iload_n hx hb dX2_between_41 rfl (lv_at hl 6 rfl) ?_
    by_cases c_4 : x3 = 0
    · refine lv_tableIn (tgt := 72) (off := 30) hx hb dX2_between_42 (by rw [c_4]; decide) (by rw [c_4]; decide) (by rw [c_4]; rfl) (by decide) ?_
      refine lv_aload hx hb dX2_between_72 (lv_at hl 0 rfl) ?_
      refine lv_aload hx hb dX2_between_74 (lv_at hl 2 rfl) ?_
      refine pg_get hx hb hts hin_X1_X2_between hown hK hP hL_nd hg_nd rfl 3 (by decide) (hts (.fieldLink RX2 65 "NeedleBoard$Needle" "value" "J") (by decide +kernel)) rfl dX2_between_76 ?_
      refine lv_aload hx hb dX2_between_79 (lv_at hl 1 rfl) ?_
      refine pg_get hx hb hts hin_X1_X2_between hown hK hP hL_nd2 hg_nd2 rfl 3 (by decide) (hts (.fieldLink RX2 65 "NeedleBoard$Needle" "value" "J") (by decide +kernel)) rfl dX2_between_81 ?_
      refine pc_V (i := i) (As := [.long nv, .long mv]) (rest := []) (r := .long (fX0_lesserOf i nv mv)) ⟨hx, hb, hml, hown, hts⟩ (c_X0_lesserOf l ad i hi nv mv) (cwV 2 hts gX2_between_X0_lesserOf rfl rfl rfl hd_X0_lesserOf ⟨Nat.le_of_ble_eq_true rfl, Nat.le_of_ble_eq_true rfl⟩) hKC hS hi rfl hl.1 rfl (lv_room (Nat.le_of_ble_eq_true rfl)) dX2_between_84 ⟨Nat.le_of_ble_eq_true rfl, Nat.le_of_ble_eq_true rfl⟩ ?_
      have hF : fX2_between made mvs twi tna fa i nlo nhi nv nst nhs nls ngs i2 mlo mhi mv mst mhs mls mgs x1 x2 x3 = (0, fX0_lesserOf i nv mv) := (by unfold fX2_between; rw [if_pos c_3, if_pos c_4])
      have hF0 : (fX2_between made mvs twi tna fa i nlo nhi nv nst nhs nls ngs i2 mlo mhi mv mst mhs mls mgs x1 x2 x3).1 = 0 := by rw [hF]
      have hF1 : (fX2_between made mvs twi tna fa i nlo nhi nv nst nhs nls ngs i2 mlo mhi mv mst mhs mls mgs x1 x2 x3).2 = fX0_lesserOf i nv mv := by rw [hF]
      exact vx_ret (W.widen (k := 3) (n := 18) (Nat.le_of_ble_eq_true rfl) (Nat.le_of_ble_eq_true rfl) (W.lret hx hb hr (fun t ht _ => ⟨hF0, congrArg (fun z => Outcome.returned (some (Value.long z))) hF1.symm, ht⟩) (fun _ h => nomatch h) dX2_between_87))
    · by_cases c_5 : x3 = 1
      · refine lv_tableIn (tgt := 88) (off := 46) hx hb dX2_between_42 (by rw [c_5]; decide) (by rw [c_5]; decide) (by rw [c_5]; rfl) (by decide) ?_
        refine lv_aload hx hb dX2_between_88 (lv_at hl 0 rfl) ?_
        refine lv_aload hx hb dX2_between_90 (lv_at hl 2 rfl) ?_
        refine pg_get hx hb hts hin_X1_X2_between hown hK hP hL_nd hg_nd rfl 3 (by decide) (hts (.fieldLink RX2 65 "NeedleBoard$Needle" "value" "J") (by decide +kernel)) rfl dX2_between_92 ?_
        refine lv_aload hx hb dX2_between_95 (lv_at hl 1 rfl) ?_
        refine pg_get hx hb hts hin_X1_X2_between hown hK hP hL_nd2 hg_nd2 rfl 3 (by decide) (hts (.fieldLink RX2 65 "NeedleBoard$Needle" "value" "J") (by decide +kernel)) rfl dX2_between_97 ?_
        refine pc_V (i := i) (As := [.long nv, .long mv]) (rest := []) (r := .long (fX0_greaterOf i nv mv)) ⟨hx, hb, hml, hown, hts⟩ (c_X0_greaterOf l ad i hi nv mv) (cwV 2 hts gX2_between_X0_greaterOf rfl rfl rfl hd_X0_greaterOf ⟨Nat.le_of_ble_eq_true rfl, Nat.le_of_ble_eq_true rfl⟩) hKC hS hi rfl hl.1 rfl (lv_room (Nat.le_of_ble_eq_true rfl)) dX2_between_100 ⟨Nat.le_of_ble_eq_true rfl, Nat.le_of_ble_eq_true rfl⟩ ?_
        have hF : fX2_between made mvs twi tna fa i nlo nhi nv nst nhs nls ngs i2 mlo mhi mv mst mhs mls mgs x1 x2 x3 = (0, fX0_greaterOf i nv mv) := (by unfold fX2_between; rw [if_pos c_3, if_neg c_4, if_pos c_5])
        have hF0 : (fX2_between made mvs twi tna fa i nlo nhi nv nst nhs nls ngs i2 mlo mhi mv mst mhs mls mgs x1 x2 x3).1 = 0 := by rw [hF]
        have hF1 : (fX2_between made mvs twi tna fa i nlo nhi nv nst nhs nls ngs i2 mlo mhi mv mst mhs mls mgs x1 x2 x3).2 = fX0_greaterOf i nv mv := by rw [hF]
        exact vx_ret (W.widen (k := 3) (n := 18) (Nat.le_of_ble_eq_true rfl) (Nat.le_of_ble_eq_true rfl) (W.lret hx hb hr (fun t ht _ => ⟨hF0, congrArg (fun z => Outcome.returned (some (Value.long z))) hF1.symm, ht⟩) (fun _ h => nomatch h) dX2_between_103))
      · by_cases c_6 : x3 = 2
        · refine lv_tableIn (tgt := 104) (off := 62) hx hb dX2_between_42 (by rw [c_6]; decide) (by rw [c_6]; decide) (by rw [c_6]; rfl) (by decide) ?_
          refine lv_aload hx hb dX2_between_104 (lv_at hl 0 rfl) ?_
          refine lv_aload hx hb dX2_between_106 (lv_at hl 2 rfl) ?_
          refine pg_get hx hb hts hin_X1_X2_between hown hK hP hL_nd hg_nd rfl 3 (by decide) (hts (.fieldLink RX2 65 "NeedleBoard$Needle" "value" "J") (by decide +kernel)) rfl dX2_between_108 ?_
          refine pc_V (i := i) (As := [.long nv]) (rest := []) (r := .long (fX0_sizeOf i nv)) ⟨hx, hb, hml, hown, hts⟩ (c_X0_sizeOf l ad i hi nv) (cwV 1 hts gX2_between_X0_sizeOf rfl rfl rfl hd_X0_sizeOf ⟨Nat.le_of_ble_eq_true rfl, Nat.le_of_ble_eq_true rfl⟩) hKC hS hi rfl hl.1 rfl (lv_room (Nat.le_of_ble_eq_true rfl)) dX2_between_111 ⟨Nat.le_of_ble_eq_true rfl, Nat.le_of_ble_eq_true rfl⟩ ?_
          refine lv_aload hx hb dX2_between_114 (lv_at hl 0 rfl) ?_
          refine lv_aload hx hb dX2_between_116 (lv_at hl 1 rfl) ?_
          refine pg_get hx hb hts hin_X1_X2_between hown hK hP hL_nd2 hg_nd2 rfl 3 (by decide) (hts (.fieldLink RX2 65 "NeedleBoard$Needle" "value" "J") (by decide +kernel)) rfl dX2_between_118 ?_
          refine pc_V (i := i) (As := [.long mv]) (rest := [.long (fX0_sizeOf i nv)]) (r := .long (fX0_sizeOf i mv)) ⟨hx, hb, hml, hown, hts⟩ (c_X0_sizeOf l ad i hi mv) (cwV 1 hts gX2_between_X0_sizeOf rfl rfl rfl hd_X0_sizeOf ⟨Nat.le_of_ble_eq_true rfl, Nat.le_of_ble_eq_true rfl⟩) hKC hS hi rfl hl.1 rfl (lv_room (Nat.le_of_ble_eq_true rfl)) dX2_between_121 ⟨Nat.le_of_ble_eq_true rfl, Nat.le_of_ble_eq_true rfl⟩ ?_
          refine va_mmin_long hx hb (hml.trans hl.1.symm) hown (hts (.methodLink RX2 128 Lib.MathLoose.min_long.x) (by decide +kernel)) (hts (.static Lib.MathLoose.min_long.x) (by decide +kernel)) (hts (.initialized "java/lang/Math") (by decide +kernel)) (hts (.code Lib.MathLoose.min_long.x Lib.MathLoose.min_long.code 4 (some .long)) (by decide +kernel)) (Nat.le_of_ble_eq_true rfl) (Nat.le_of_ble_eq_true rfl) (Nat.le_of_ble_eq_true rfl) (Nat.le_of_ble_eq_true rfl) dX2_between_124 ?_
          have hF : fX2_between made mvs twi tna fa i nlo nhi nv nst nhs nls ngs i2 mlo mhi mv mst mhs mls mgs x1 x2 x3 = (0, if (fX0_sizeOf i mv) < (fX0_sizeOf i nv) then (fX0_sizeOf i mv) else (fX0_sizeOf i nv)) := (by unfold fX2_between; rw [if_pos c_3, if_neg c_4, if_neg c_5, if_pos c_6])
          have hF0 : (fX2_between made mvs twi tna fa i nlo nhi nv nst nhs nls ngs i2 mlo mhi mv mst mhs mls mgs x1 x2 x3).1 = 0 := by rw [hF]
          have hF1 : (fX2_between made mvs twi tna fa i nlo nhi nv nst nhs nls ngs i2 mlo mhi mv mst mhs mls mgs x1 x2 x3).2 = if (fX0_sizeOf i mv) < (fX0_sizeOf i nv) then (fX0_sizeOf i mv) else (fX0_sizeOf i nv) := by rw [hF]
          exact vx_ret (W.widen (k := 3) (n := 18) (Nat.le_of_ble_eq_true rfl) (Nat.le_of_ble_eq_true rfl) (W.lret hx hb hr (fun t ht _ => ⟨hF0, congrArg (fun z => Outcome.returned (some (Value.long z))) hF1.symm, ht⟩) (fun _ h => nomatch h) dX2_between_127))
        · by_cases c_7 : x3 = 3
          · refine lv_tableIn (tgt := 128) (off := 86) hx hb dX2_between_42 (by rw [c_7]; decide) (by rw [c_7]; decide) (by rw [c_7]; rfl) (by decide) ?_
            refine lv_aload hx hb dX2_between_128 (lv_at hl 0 rfl) ?_
            refine lv_aload hx hb dX2_between_130 (lv_at hl 2 rfl) ?_
            refine pg_get hx hb hts hin_X1_X2_between hown hK hP hL_nd hg_nd rfl 3 (by decide) (hts (.fieldLink RX2 65 "NeedleBoard$Needle" "value" "J") (by decide +kernel)) rfl dX2_between_132 ?_
            refine pc_V (i := i) (As := [.long nv]) (rest := []) (r := .long (fX0_sizeOf i nv)) ⟨hx, hb, hml, hown, hts⟩ (c_X0_sizeOf l ad i hi nv) (cwV 1 hts gX2_between_X0_sizeOf rfl rfl rfl hd_X0_sizeOf ⟨Nat.le_of_ble_eq_true rfl, Nat.le_of_ble_eq_true rfl⟩) hKC hS hi rfl hl.1 rfl (lv_room (Nat.le_of_ble_eq_true rfl)) dX2_between_135 ⟨Nat.le_of_ble_eq_true rfl, Nat.le_of_ble_eq_true rfl⟩ ?_
            refine lv_aload hx hb dX2_between_138 (lv_at hl 0 rfl) ?_
            refine lv_aload hx hb dX2_between_140 (lv_at hl 1 rfl) ?_
            refine pg_get hx hb hts hin_X1_X2_between hown hK hP hL_nd2 hg_nd2 rfl 3 (by decide) (hts (.fieldLink RX2 65 "NeedleBoard$Needle" "value" "J") (by decide +kernel)) rfl dX2_between_142 ?_
            refine pc_V (i := i) (As := [.long mv]) (rest := [.long (fX0_sizeOf i nv)]) (r := .long (fX0_sizeOf i mv)) ⟨hx, hb, hml, hown, hts⟩ (c_X0_sizeOf l ad i hi mv) (cwV 1 hts gX2_between_X0_sizeOf rfl rfl rfl hd_X0_sizeOf ⟨Nat.le_of_ble_eq_true rfl, Nat.le_of_ble_eq_true rfl⟩) hKC hS hi rfl hl.1 rfl (lv_room (Nat.le_of_ble_eq_true rfl)) dX2_between_145 ⟨Nat.le_of_ble_eq_true rfl, Nat.le_of_ble_eq_true rfl⟩ ?_
            refine va_mmax_long hx hb (hml.trans hl.1.symm) hown (hts (.methodLink RX2 133 Lib.MathLoose.max_long.x) (by decide +kernel)) (hts (.static Lib.MathLoose.max_long.x) (by decide +kernel)) (hts (.initialized "java/lang/Math") (by decide +kernel)) (hts (.code Lib.MathLoose.max_long.x Lib.MathLoose.max_long.code 4 (some .long)) (by decide +kernel)) (Nat.le_of_ble_eq_true rfl) (Nat.le_of_ble_eq_true rfl) (Nat.le_of_ble_eq_true rfl) (Nat.le_of_ble_eq_true rfl) dX2_between_148 ?_
            have hF : fX2_between made mvs twi tna fa i nlo nhi nv nst nhs nls ngs i2 mlo mhi mv mst mhs mls mgs x1 x2 x3 = (0, if (fX0_sizeOf i mv) < (fX0_sizeOf i nv) then (fX0_sizeOf i nv) else (fX0_sizeOf i mv)) := (by unfold fX2_between; rw [if_pos c_3, if_neg c_4, if_neg c_5, if_neg c_6, if_pos c_7])
            have hF0 : (fX2_between made mvs twi tna fa i nlo nhi nv nst nhs nls ngs i2 mlo mhi mv mst mhs mls mgs x1 x2 x3).1 = 0 := by rw [hF]
            have hF1 : (fX2_between made mvs twi tna fa i nlo nhi nv nst nhs nls ngs i2 mlo mhi mv mst mhs mls mgs x1 x2 x3).2 = if (fX0_sizeOf i mv) < (fX0_sizeOf i nv) then (fX0_sizeOf i nv) else (fX0_sizeOf i mv) := by rw [hF]
            exact vx_ret (W.widen (k := 3) (n := 18) (Nat.le_of_ble_eq_true rfl) (Nat.le_of_ble_eq_true rfl) (W.lret hx hb hr (fun t ht _ => ⟨hF0, congrArg (fun z => Outcome.returned (some (Value.long z))) hF1.symm, ht⟩) (fun _ h => nomatch h) dX2_between_151))
          · refine lv_tableOut (tgt := 152) hx hb dX2_between_42 (by have h0 := lv_neT c_4 (a := 0) rfl; have h1 := lv_neT c_5 (a := 1) rfl; have h2 := lv_neT c_6 (a := 2) rfl; have h3 := lv_neT c_7 (a := 3) rfl; omega) (by decide) ?_
            have hF : fX2_between made mvs twi tna fa i nlo nhi nv nst nhs nls ngs i2 mlo mhi mv mst mhs mls mgs x1 x2 x3 = (2, (0 : Int64)) := (by unfold fX2_between; rw [if_pos c_3, if_neg c_4, if_neg c_5, if_neg c_6, if_neg c_7])
            exact th_A (is := 136) (text := "there is no such thing between needles") hx hb hfl hown (hts (.classLink RX2 32 "java/lang/IllegalArgumentException") (by decide +kernel)) (hts (.initialized "java/lang/IllegalArgumentException") (by decide +kernel)) (fun w hw => hts w (hgA_X2_between w hw)) hXN (by decide +kernel) hP0 hK hD0 hKC0 hTC (hl.1.trans hml.symm) dX2_between_152 dX2_between_155 dX2_between_156 dX2_between_158 dX2_between_161 hout (Nat.le_of_ble_eq_true rfl) (Nat.le_of_ble_eq_true rfl) (Nat.le_of_ble_eq_true rfl) (Nat.le_of_ble_eq_true rfl) hlocks (by rw [hF]) (Nat.le_of_ble_eq_true rfl) (Nat.le_of_ble_eq_true rfl)
  · have hF : fX2_between made mvs twi tna fa i nlo nhi nv nst nhs nls ngs i2 mlo mhi mv mst mhs mls mgs x1 x2 x3 = (2, (0 : Int64)) := (by unfold fX2_between; rw [if_neg c_3])
    exact th_A (is := 120) (text := "the needles are of two kinds") hx hb hfl hown (hts (.classLink RX2 32 "java/lang/IllegalArgumentException") (by decide +kernel)) (hts (.initialized "java/lang/IllegalArgumentException") (by decide +kernel)) (fun w hw => hts w (hgA_X2_between w hw)) hXN (by decide +kernel) hP0 hK hD0 hKC0 hTC (hl.1.trans hml.symm) dX2_between_31 dX2_between_34 dX2_between_35 dX2_between_37 dX2_between_40 hout (Nat.le_of_ble_eq_true rfl) (Nat.le_of_ble_eq_true rfl) (Nat.le_of_ble_eq_true rfl) (Nat.le_of_ble_eq_true rfl) hlocks (by rw [hF]) (Nat.le_of_ble_eq_true rfl) (Nat.le_of_ble_eq_true rfl)
def fX2_between_s (made : Int32) (mvs : Int32) (twi : Int64) (tna : Int32) (fa : Nat → Option Nat) (i : Nat) (nlo : Int64) (nhi : Int64) (nv : Int64) (nst : Int64) (nhs : Int64) (nls : Int64) (ngs : Int64) (x1 : Int32) (x2 : Int32) (x3 : Int32) : Nat × Int64 :=
  if i = i then
    if x3 = 0 then
      (0, fX0_lesserOf i nv nv)
    else
      if x3 = 1 then
        (0, fX0_greaterOf i nv nv)
      else
        if x3 = 2 then
          (0, if (fX0_sizeOf i nv) < (fX0_sizeOf i nv) then (fX0_sizeOf i nv) else (fX0_sizeOf i nv))
        else
          if x3 = 3 then
            (0, if (fX0_sizeOf i nv) < (fX0_sizeOf i nv) then (fX0_sizeOf i nv) else (fX0_sizeOf i nv))
          else
            (2, (0 : Int64))
  else
    (2, (0 : Int64))
set_option maxHeartbeats 1000000 in
set_option maxRecDepth 100000 in
theorem c_X2_between_s (l : Launch) (hfl : l.stackTraces = false) {cyN : ClassId} (D : va_G) (tys : List (ClassId × FieldType)) (ad : Nat → Nat) (L : List Nat) (g : Nat → va_E) (ob arr nd : Nat) (made : Int32) (mvs : Int32) (twi : Int64) (tna : Int32) (fa : Nat → Option Nat) (i : Nat) (nlo : Int64) (nhi : Int64) (nv : Int64) (nst : Int64) (nhs : Int64) (nls : Int64) (ngs : Int64) (x1 : Int32) (x2 : Int32) (x3 : Int32) (hi : i < 2) (hL_ob : ob ∈ L) (hL_arr : arr ∈ L) (hL_nd : nd ∈ L) (hg_ob : g ob = .inr (2, [.ref arr, .int made, .int mvs, .long twi, .int tna])) (hg_arr : g arr = .inl (cyN, 8, .inr (.inr (.inr (.inr fa))))) (hg_nd : g nd = .inr (1, [.ref (ad i), .long nlo, .long nhi, .long nv, .long nst, .long nhs, .long nls, .long ngs])) (htN : tys[2]? = some (cyN, .object RX1)) (hia : vp_in x1 8) (hfa : fa x1.toNatClampNeg = some nd) (hia2 : vp_in x2 8) (hfa2 : fa x2.toNatClampNeg = some nd) : vx_Met l yX2_between wsX2_between ({ frames := 7, cells := 3, slots := 18, locals := 104 }) (PW D tys ad L g [.ref ob, .int x1, .int x2, .int x3]) (QR ((fX2_between_s made mvs twi tna fa i nlo nhi nv nst nhs nls ngs x1 x2 x3).1) (some (.long ((fX2_between_s made mvs twi tna fa i nlo nhi nv nst nhs nls ngs x1 x2 x3).2)))) (XW D tys ad L g ((fX2_between_s made mvs twi tna fa i nlo nhi nv nst nhs nls ngs x1 x2 x3).1)) 3 18 (fun _ => False) := by
  refine vx_ofW (cc := cX2_between) (maxL := 7) (ret := (some .long)) (by decide) rfl ?_
  intro p e s m args below meth c s₁ B hml hout hv
  obtain ⟨rfl, ⟨hP, hK, hD0, hKC0, hTC⟩, hXN⟩ := hv
  have hP0 := hP
  have hD : va_D (fun q => q ∈ L) (va_pl L g) := we_D (fun _ h => h) hD0
  have hKC : KC ad (fun q => q ∈ L) s s.heap := hKC0.narrow (fun _ h => Or.inl h)
  have hS : va_S (fun q => q ∈ L) s.heap s.heap [] := va_S.rf
  have hx := B.exec
  have hb := B.bytes
  have hr := B.returns
  have hts := atoms_spec (ws := wsX2_between) B.pre
  have hown : s.vm.findClass RX2 = some m.cls := findClass_of_methodNamed B.named
  have hlocks := B.notSynchronized
  have hl := lv_entry ([.ref ob, .int x1, .int x2, .int x3]) (n := 7) (Nat.le_of_ble_eq_true rfl)
  rw [lg_entry_eq]
  generalize (lg_sl ([.ref ob, .int x1, .int x2, .int x3]) ++ List.replicate (7 - (lg_sl ([.ref ob, .int x1, .int x2, .int x3])).length) Slot.unset).toArray = ls at hl ⊢
  have hl : lv_has ls 7 [(0, .ref ob), (1, .int x1), (2, .int x2), (3, .int x3)] := hl
  refine lv_aload_n hx hb dX2_between_0 rfl (lv_at hl 0 rfl) ?_
  refine lv_iload_n hx hb dX2_between_1 rfl (lv_at hl 1 rfl) ?_
  refine xp_V (b := ob) (As := [.int x1]) (rest := []) ⟨hx, hb, hml, hown, hts⟩ (c_X2_needleAt_ok l hfl D tys ad L g  ob arr nd made mvs twi tna fa x1 hL_ob hL_arr hg_ob hg_arr htN hia hfa) (cwV 1 hts gX2_between_X2_needleAt rfl rfl rfl hd_X2_needleAt ⟨Nat.le_of_ble_eq_true rfl, Nat.le_of_ble_eq_true rfl⟩) (pg_recv hK hP hL_ob hg_ob rfl) (fun U hU hvm => WM hP hK hD hKC0 hTC hS hU hvm) hXN rfl hl.1 rfl (lv_room (Nat.le_of_ble_eq_true rfl)) dX2_between_2 ⟨Nat.le_of_ble_eq_true rfl, Nat.le_of_ble_eq_true rfl⟩ hout hlocks (fun h9 => absurd rfl h9) (Nat.le_of_ble_eq_true rfl) (Nat.le_of_ble_eq_true rfl) (fun _ => ?_)
  refine W.eq (g2 := F0 m 5 ls [.ref nd]) rfl ?_
  refine lv_astore (lv' := [(4, .ref nd), (0, .ref ob), (1, .int x1), (2, .int x2), (3, .int x3)]) hx hb dX2_between_5 hl (by decide) rfl (fun ls hl => ?_)
  refine lv_aload_n hx hb dX2_between_7 rfl (lv_at hl 1 rfl) ?_
  refine lv_iload_n hx hb dX2_between_8 rfl (lv_at hl 3 rfl) ?_
  refine xp_V (b := ob) (As := [.int x2]) (rest := []) ⟨hx, hb, hml, hown, hts⟩ (c_X2_needleAt_ok l hfl D tys ad L g  ob arr nd made mvs twi tna fa x2 hL_ob hL_arr hg_ob hg_arr htN hia2 hfa2) (cwV 1 hts gX2_between_X2_needleAt rfl rfl rfl hd_X2_needleAt ⟨Nat.le_of_ble_eq_true rfl, Nat.le_of_ble_eq_true rfl⟩) (pg_recv hK hP hL_ob hg_ob rfl) (fun U hU hvm => WM hP hK hD hKC0 hTC hS hU hvm) hXN rfl hl.1 rfl (lv_room (Nat.le_of_ble_eq_true rfl)) dX2_between_9 ⟨Nat.le_of_ble_eq_true rfl, Nat.le_of_ble_eq_true rfl⟩ hout hlocks (fun h9 => absurd rfl h9) (Nat.le_of_ble_eq_true rfl) (Nat.le_of_ble_eq_true rfl) (fun _ => ?_)
  refine W.eq (g2 := F0 m 12 ls [.ref nd]) rfl ?_
  refine lv_astore (lv' := [(5, .ref nd), (4, .ref nd), (0, .ref ob), (1, .int x1), (2, .int x2), (3, .int x3)]) hx hb dX2_between_12 hl (by decide) rfl (fun ls hl => ?_)
  refine lv_aload hx hb dX2_between_14 (lv_at hl 1 rfl) ?_
  refine pg_get hx hb hts hin_X1_X2_between hown hK hP hL_nd hg_nd rfl 0 (by decide) (hts (.fieldLink RX2 55 "NeedleBoard$Needle" "kind" "LNeedleBoard$Kind;") (by decide +kernel)) rfl dX2_between_16 ?_
  refine lv_astore (lv' := [(6, .ref (ad i)), (5, .ref nd), (4, .ref nd), (0, .ref ob), (1, .int x1), (2, .int x2), (3, .int x3)]) hx hb dX2_between_19 hl (by decide) rfl (fun ls hl => ?_)
  refine lv_aload hx hb dX2_between_21 (lv_at hl 0 rfl) ?_
  refine lv_aload hx hb dX2_between_23 (lv_at hl 1 rfl) ?_
  refine pg_get hx hb hts hin_X1_X2_between hown hK hP hL_nd hg_nd rfl 0 (by decide) (hts (.fieldLink RX2 55 "NeedleBoard$Needle" "kind" "LNeedleBoard$Kind;") (by decide +kernel)) rfl dX2_between_25 ?_
  refine pa_eq (tgt := 41) hx hb hKC hi hi dX2_between_28 (by decide) (fun c_3 => ?_) (fun c_3 => ?_)
  · refine lv_iload_n hx hb dX2_between_41 rfl (lv_at hl 6 rfl) ?_
    by_cases c_4 : x3 = 0
    · refine lv_tableIn (tgt := 72) (off := 30) hx hb dX2_between_42 (by rw [c_4]; decide) (by rw [c_4]; decide) (by rw [c_4]; rfl) (by decide) ?_
      refine lv_aload hx hb dX2_between_72 (lv_at hl 0 rfl) ?_
      refine lv_aload hx hb dX2_between_74 (lv_at hl 2 rfl) ?_
      refine pg_get hx hb hts hin_X1_X2_between hown hK hP hL_nd hg_nd rfl 3 (by decide) (hts (.fieldLink RX2 65 "NeedleBoard$Needle" "value" "J") (by decide +kernel)) rfl dX2_between_76 ?_
      refine lv_aload hx hb dX2_between_79 (lv_at hl 1 rfl) ?_
      refine pg_get hx hb hts hin_X1_X2_between hown hK hP hL_nd hg_nd rfl 3 (by decide) (hts (.fieldLink RX2 65 "NeedleBoard$Needle" "value" "J") (by decide +kernel)) rfl dX2_between_81 ?_
      refine pc_V (i := i) (As := [.long nv, .long nv]) (rest := []) (r := .long (fX0_lesserOf i nv nv)) ⟨hx, hb, hml, hown, hts⟩ (c_X0_lesserOf l ad i hi nv nv) (cwV 2 hts gX2_between_X0_lesserOf rfl rfl rfl hd_X0_lesserOf ⟨Nat.le_of_ble_eq_true rfl, Nat.le_of_ble_eq_true rfl⟩) hKC hS hi rfl hl.1 rfl (lv_room (Nat.le_of_ble_eq_true rfl)) dX2_between_84 ⟨Nat.le_of_ble_eq_true rfl, Nat.le_of_ble_eq_true rfl⟩ ?_
      have hF : fX2_between_s made mvs twi tna fa i nlo nhi nv nst nhs nls ngs x1 x2 x3 = (0, fX0_lesserOf i nv nv) := (by unfold fX2_between_s; rw [if_pos c_3, if_pos c_4])
      have hF0 : (fX2_between_s made mvs twi tna fa i nlo nhi nv nst nhs nls ngs x1 x2 x3).1 = 0 := by rw [hF]
      have hF1 : (fX2_between_s made mvs twi tna fa i nlo nhi nv nst nhs nls ngs x1 x2 x3).2 = fX0_lesserOf i nv nv := by rw [hF]
      exact vx_ret (W.widen (k := 3) (n := 18) (Nat.le_of_ble_eq_true rfl) (Nat.le_of_ble_eq_true rfl) (W.lret hx hb hr (fun t ht _ => ⟨hF0, congrArg (fun z => Outcome.returned (some (Value.long z))) hF1.symm, ht⟩) (fun _ h => nomatch h) dX2_between_87))
    · by_cases c_5 : x3 = 1
      · refine lv_tableIn (tgt := 88) (off := 46) hx hb dX2_between_42 (by rw [c_5]; decide) (by rw [c_5]; decide) (by rw [c_5]; rfl) (by decide) ?_
        refine lv_aload hx hb dX2_between_88 (lv_at hl 0 rfl) ?_
        refine lv_aload hx hb dX2_between_90 (lv_at hl 2 rfl) ?_
        refine pg_get hx hb hts hin_X1_X2_between hown hK hP hL_nd hg_nd rfl 3 (by decide) (hts (.fieldLink RX2 65 "NeedleBoard$Needle" "value" "J") (by decide +kernel)) rfl dX2_between_92 ?_
        refine lv_aload hx hb dX2_between_95 (lv_at hl 1 rfl) ?_
        refine pg_get hx hb hts hin_X1_X2_between hown hK hP hL_nd hg_nd rfl 3 (by decide) (hts (.fieldLink RX2 65 "NeedleBoard$Needle" "value" "J") (by decide +kernel)) rfl dX2_between_97 ?_
        refine pc_V (i := i) (As := [.long nv, .long nv]) (rest := []) (r := .long (fX0_greaterOf i nv nv)) ⟨hx, hb, hml, hown, hts⟩ (c_X0_greaterOf l ad i hi nv nv) (cwV 2 hts gX2_between_X0_greaterOf rfl rfl rfl hd_X0_greaterOf ⟨Nat.le_of_ble_eq_true rfl, Nat.le_of_ble_eq_true rfl⟩) hKC hS hi rfl hl.1 rfl (lv_room (Nat.le_of_ble_eq_true rfl)) dX2_between_100 ⟨Nat.le_of_ble_eq_true rfl, Nat.le_of_ble_eq_true rfl⟩ ?_
        have hF : fX2_between_s made mvs twi tna fa i nlo nhi nv nst nhs nls ngs x1 x2 x3 = (0, fX0_greaterOf i nv nv) := (by unfold fX2_between_s; rw [if_pos c_3, if_neg c_4, if_pos c_5])
        have hF0 : (fX2_between_s made mvs twi tna fa i nlo nhi nv nst nhs nls ngs x1 x2 x3).1 = 0 := by rw [hF]
        have hF1 : (fX2_between_s made mvs twi tna fa i nlo nhi nv nst nhs nls ngs x1 x2 x3).2 = fX0_greaterOf i nv nv := by rw [hF]
        exact vx_ret (W.widen (k := 3) (n := 18) (Nat.le_of_ble_eq_true rfl) (Nat.le_of_ble_eq_true rfl) (W.lret hx hb hr (fun t ht _ => ⟨hF0, congrArg (fun z => Outcome.returned (some (Value.long z))) hF1.symm, ht⟩) (fun _ h => nomatch h) dX2_between_103))
      · by_cases c_6 : x3 = 2
        · refine lv_tableIn (tgt := 104) (off := 62) hx hb dX2_between_42 (by rw [c_6]; decide) (by rw [c_6]; decide) (by rw [c_6]; rfl) (by decide) ?_
          refine lv_aload hx hb dX2_between_104 (lv_at hl 0 rfl) ?_
          refine lv_aload hx hb dX2_between_106 (lv_at hl 2 rfl) ?_
          refine pg_get hx hb hts hin_X1_X2_between hown hK hP hL_nd hg_nd rfl 3 (by decide) (hts (.fieldLink RX2 65 "NeedleBoard$Needle" "value" "J") (by decide +kernel)) rfl dX2_between_108 ?_
          refine pc_V (i := i) (As := [.long nv]) (rest := []) (r := .long (fX0_sizeOf i nv)) ⟨hx, hb, hml, hown, hts⟩ (c_X0_sizeOf l ad i hi nv) (cwV 1 hts gX2_between_X0_sizeOf rfl rfl rfl hd_X0_sizeOf ⟨Nat.le_of_ble_eq_true rfl, Nat.le_of_ble_eq_true rfl⟩) hKC hS hi rfl hl.1 rfl (lv_room (Nat.le_of_ble_eq_true rfl)) dX2_between_111 ⟨Nat.le_of_ble_eq_true rfl, Nat.le_of_ble_eq_true rfl⟩ ?_
          refine lv_aload hx hb dX2_between_114 (lv_at hl 0 rfl) ?_
          refine lv_aload hx hb dX2_between_116 (lv_at hl 1 rfl) ?_
          refine pg_get hx hb hts hin_X1_X2_between hown hK hP hL_nd hg_nd rfl 3 (by decide) (hts (.fieldLink RX2 65 "NeedleBoard$Needle" "value" "J") (by decide +kernel)) rfl dX2_between_118 ?_
          refine pc_V (i := i) (As := [.long nv]) (rest := [.long (fX0_sizeOf i nv)]) (r := .long (fX0_sizeOf i nv)) ⟨hx, hb, hml, hown, hts⟩ (c_X0_sizeOf l ad i hi nv) (cwV 1 hts gX2_between_X0_sizeOf rfl rfl rfl hd_X0_sizeOf ⟨Nat.le_of_ble_eq_true rfl, Nat.le_of_ble_eq_true rfl⟩) hKC hS hi rfl hl.1 rfl (lv_room (Nat.le_of_ble_eq_true rfl)) dX2_between_121 ⟨Nat.le_of_ble_eq_true rfl, Nat.le_of_ble_eq_true rfl⟩ ?_
          refine va_mmin_long hx hb (hml.trans hl.1.symm) hown (hts (.methodLink RX2 128 Lib.MathLoose.min_long.x) (by decide +kernel)) (hts (.static Lib.MathLoose.min_long.x) (by decide +kernel)) (hts (.initialized "java/lang/Math") (by decide +kernel)) (hts (.code Lib.MathLoose.min_long.x Lib.MathLoose.min_long.code 4 (some .long)) (by decide +kernel)) (Nat.le_of_ble_eq_true rfl) (Nat.le_of_ble_eq_true rfl) (Nat.le_of_ble_eq_true rfl) (Nat.le_of_ble_eq_true rfl) dX2_between_124 ?_
          have hF : fX2_between_s made mvs twi tna fa i nlo nhi nv nst nhs nls ngs x1 x2 x3 = (0, if (fX0_sizeOf i nv) < (fX0_sizeOf i nv) then (fX0_sizeOf i nv) else (fX0_sizeOf i nv)) := (by unfold fX2_between_s; rw [if_pos c_3, if_neg c_4, if_neg c_5, if_pos c_6])
          have hF0 : (fX2_between_s made mvs twi tna fa i nlo nhi nv nst nhs nls ngs x1 x2 x3).1 = 0 := by rw [hF]
          have hF1 : (fX2_between_s made mvs twi tna fa i nlo nhi nv nst nhs nls ngs x1 x2 x3).2 = if (fX0_sizeOf i nv) < (fX0_sizeOf i nv) then (fX0_sizeOf i nv) else (fX0_sizeOf i nv) := by rw [hF]
          exact vx_ret (W.widen (k := 3) (n := 18) (Nat.le_of_ble_eq_true rfl) (Nat.le_of_ble_eq_true rfl) (W.lret hx hb hr (fun t ht _ => ⟨hF0, congrArg (fun z => Outcome.returned (some (Value.long z))) hF1.symm, ht⟩) (fun _ h => nomatch h) dX2_between_127))
        · by_cases c_7 : x3 = 3
          · refine lv_tableIn (tgt := 128) (off := 86) hx hb dX2_between_42 (by rw [c_7]; decide) (by rw [c_7]; decide) (by rw [c_7]; rfl) (by decide) ?_
            refine lv_aload hx hb dX2_between_128 (lv_at hl 0 rfl) ?_
            refine lv_aload hx hb dX2_between_130 (lv_at hl 2 rfl) ?_
            refine pg_get hx hb hts hin_X1_X2_between hown hK hP hL_nd hg_nd rfl 3 (by decide) (hts (.fieldLink RX2 65 "NeedleBoard$Needle" "value" "J") (by decide +kernel)) rfl dX2_between_132 ?_
            refine pc_V (i := i) (As := [.long nv]) (rest := []) (r := .long (fX0_sizeOf i nv)) ⟨hx, hb, hml, hown, hts⟩ (c_X0_sizeOf l ad i hi nv) (cwV 1 hts gX2_between_X0_sizeOf rfl rfl rfl hd_X0_sizeOf ⟨Nat.le_of_ble_eq_true rfl, Nat.le_of_ble_eq_true rfl⟩) hKC hS hi rfl hl.1 rfl (lv_room (Nat.le_of_ble_eq_true rfl)) dX2_between_135 ⟨Nat.le_of_ble_eq_true rfl, Nat.le_of_ble_eq_true rfl⟩ ?_
            refine lv_aload hx hb dX2_between_138 (lv_at hl 0 rfl) ?_
            refine lv_aload hx hb dX2_between_140 (lv_at hl 1 rfl) ?_
            refine pg_get hx hb hts hin_X1_X2_between hown hK hP hL_nd hg_nd rfl 3 (by decide) (hts (.fieldLink RX2 65 "NeedleBoard$Needle" "value" "J") (by decide +kernel)) rfl dX2_between_142 ?_
            refine pc_V (i := i) (As := [.long nv]) (rest := [.long (fX0_sizeOf i nv)]) (r := .long (fX0_sizeOf i nv)) ⟨hx, hb, hml, hown, hts⟩ (c_X0_sizeOf l ad i hi nv) (cwV 1 hts gX2_between_X0_sizeOf rfl rfl rfl hd_X0_sizeOf ⟨Nat.le_of_ble_eq_true rfl, Nat.le_of_ble_eq_true rfl⟩) hKC hS hi rfl hl.1 rfl (lv_room (Nat.le_of_ble_eq_true rfl)) dX2_between_145 ⟨Nat.le_of_ble_eq_true rfl, Nat.le_of_ble_eq_true rfl⟩ ?_
            refine va_mmax_long hx hb (hml.trans hl.1.symm) hown (hts (.methodLink RX2 133 Lib.MathLoose.max_long.x) (by decide +kernel)) (hts (.static Lib.MathLoose.max_long.x) (by decide +kernel)) (hts (.initialized "java/lang/Math") (by decide +kernel)) (hts (.code Lib.MathLoose.max_long.x Lib.MathLoose.max_long.code 4 (some .long)) (by decide +kernel)) (Nat.le_of_ble_eq_true rfl) (Nat.le_of_ble_eq_true rfl) (Nat.le_of_ble_eq_true rfl) (Nat.le_of_ble_eq_true rfl) dX2_between_148 ?_
            have hF : fX2_between_s made mvs twi tna fa i nlo nhi nv nst nhs nls ngs x1 x2 x3 = (0, if (fX0_sizeOf i nv) < (fX0_sizeOf i nv) then (fX0_sizeOf i nv) else (fX0_sizeOf i nv)) := (by unfold fX2_between_s; rw [if_pos c_3, if_neg c_4, if_neg c_5, if_neg c_6, if_pos c_7])
            have hF0 : (fX2_between_s made mvs twi tna fa i nlo nhi nv nst nhs nls ngs x1 x2 x3).1 = 0 := by rw [hF]
            have hF1 : (fX2_between_s made mvs twi tna fa i nlo nhi nv nst nhs nls ngs x1 x2 x3).2 = if (fX0_sizeOf i nv) < (fX0_sizeOf i nv) then (fX0_sizeOf i nv) else (fX0_sizeOf i nv) := by rw [hF]
            exact vx_ret (W.widen (k := 3) (n := 18) (Nat.le_of_ble_eq_true rfl) (Nat.le_of_ble_eq_true rfl) (W.lret hx hb hr (fun t ht _ => ⟨hF0, congrArg (fun z => Outcome.returned (some (Value.long z))) hF1.symm, ht⟩) (fun _ h => nomatch h) dX2_between_151))
          · refine lv_tableOut (tgt := 152) hx hb dX2_between_42 (by have h0 := lv_neT c_4 (a := 0) rfl; have h1 := lv_neT c_5 (a := 1) rfl; have h2 := lv_neT c_6 (a := 2) rfl; have h3 := lv_neT c_7 (a := 3) rfl; omega) (by decide) ?_
            have hF : fX2_between_s made mvs twi tna fa i nlo nhi nv nst nhs nls ngs x1 x2 x3 = (2, (0 : Int64)) := (by unfold fX2_between_s; rw [if_pos c_3, if_neg c_4, if_neg c_5, if_neg c_6, if_neg c_7])
            exact th_A (is := 136) (text := "there is no such thing between needles") hx hb hfl hown (hts (.classLink RX2 32 "java/lang/IllegalArgumentException") (by decide +kernel)) (hts (.initialized "java/lang/IllegalArgumentException") (by decide +kernel)) (fun w hw => hts w (hgA_X2_between w hw)) hXN (by decide +kernel) hP0 hK hD0 hKC0 hTC (hl.1.trans hml.symm) dX2_between_152 dX2_between_155 dX2_between_156 dX2_between_158 dX2_between_161 hout (Nat.le_of_ble_eq_true rfl) (Nat.le_of_ble_eq_true rfl) (Nat.le_of_ble_eq_true rfl) (Nat.le_of_ble_eq_true rfl) hlocks (by rw [hF]) (Nat.le_of_ble_eq_true rfl) (Nat.le_of_ble_eq_true rfl)
  · have hF : fX2_between_s made mvs twi tna fa i nlo nhi nv nst nhs nls ngs x1 x2 x3 = (2, (0 : Int64)) := (by unfold fX2_between_s; rw [if_neg c_3])
    exact th_A (is := 120) (text := "the needles are of two kinds") hx hb hfl hown (hts (.classLink RX2 32 "java/lang/IllegalArgumentException") (by decide +kernel)) (hts (.initialized "java/lang/IllegalArgumentException") (by decide +kernel)) (fun w hw => hts w (hgA_X2_between w hw)) hXN (by decide +kernel) hP0 hK hD0 hKC0 hTC (hl.1.trans hml.symm) dX2_between_31 dX2_between_34 dX2_between_35 dX2_between_37 dX2_between_40 hout (Nat.le_of_ble_eq_true rfl) (Nat.le_of_ble_eq_true rfl) (Nat.le_of_ble_eq_true rfl) (Nat.le_of_ble_eq_true rfl) hlocks (by rw [hF]) (Nat.le_of_ble_eq_true rfl) (Nat.le_of_ble_eq_true rfl)
theorem hd_X2_order : yX2_order.cls = RX2 ∧ yX2_order.cls ≠ "java/lang/invoke/MethodHandle" ∧ yX2_order.cls ≠ "java/lang/invoke/VarHandle" ∧ (parseMethodDescriptor yX2_order.desc).map (fun d => d.parameters.length) = some 2 := by decide +kernel
set_option maxHeartbeats 1000000 in
set_option maxRecDepth 100000 in
theorem c_X2_order_no (l : Launch) (hfl : l.stackTraces = false) {cyN : ClassId} (D : va_G) (tys : List (ClassId × FieldType)) (ad : Nat → Nat) (L : List Nat) (g : Nat → va_E) (ob arr : Nat) (made : Int32) (mvs : Int32) (twi : Int64) (tna : Int32) (fa : Nat → Option Nat) (x1 : Int32) (x2 : Int32) (hL_ob : ob ∈ L) (hL_arr : arr ∈ L) (hg_ob : g ob = .inr (2, [.ref arr, .int made, .int mvs, .long twi, .int tna])) (hg_arr : g arr = .inl (cyN, 8, .inr (.inr (.inr (.inr fa))))) (htN : tys[2]? = some (cyN, .object RX1)) (hab : ¬ vp_in x1 8 ∨ fa x1.toNatClampNeg = none) : vx_Met l yX2_order wsX2_order ({ frames := 7, cells := 1, slots := 6, locals := 104 }) (PW D tys ad L g [.ref ob, .int x1, .int x2]) (QR (1) none) (XW D tys ad L g (1)) 1 6 (fun _ => False) := by
  refine vx_ofW (cc := cX2_order) (maxL := 7) (ret := (some .int)) (by decide) rfl ?_
  intro p e s m args below meth c s₁ B hml hout hv
  obtain ⟨rfl, ⟨hP, hK, hD0, hKC0, hTC⟩, hXN⟩ := hv
  have hP0 := hP
  have hD : va_D (fun q => q ∈ L) (va_pl L g) := we_D (fun _ h => h) hD0
  have hKC : KC ad (fun q => q ∈ L) s s.heap := hKC0.narrow (fun _ h => Or.inl h)
  have hS : va_S (fun q => q ∈ L) s.heap s.heap [] := va_S.rf
  have hx := B.exec
  have hb := B.bytes
  have hr := B.returns
  have hts := atoms_spec (ws := wsX2_order) B.pre
  have hown : s.vm.findClass RX2 = some m.cls := findClass_of_methodNamed B.named
  have hlocks := B.notSynchronized
  have hl := lv_entry ([.ref ob, .int x1, .int x2]) (n := 7) (Nat.le_of_ble_eq_true rfl)
  rw [lg_entry_eq]
  generalize (lg_sl ([.ref ob, .int x1, .int x2]) ++ List.replicate (7 - (lg_sl ([.ref ob, .int x1, .int x2])).length) Slot.unset).toArray = ls at hl ⊢
  have hl : lv_has ls 7 [(0, .ref ob), (1, .int x1), (2, .int x2)] := hl
  refine lv_aload_n hx hb dX2_order_0 rfl (lv_at hl 0 rfl) ?_
  refine lv_iload_n hx hb dX2_order_1 rfl (lv_at hl 1 rfl) ?_
  exact xp_V (b := ob) (As := [.int x1]) (rest := []) ⟨hx, hb, hml, hown, hts⟩ (c_X2_needleAt_no l hfl D tys ad L g  ob arr made mvs twi tna fa x1 hL_ob hL_arr hg_ob hg_arr htN hab) (cwV 1 hts gX2_order_X2_needleAt rfl rfl rfl hd_X2_needleAt ⟨Nat.le_of_ble_eq_true rfl, Nat.le_of_ble_eq_true rfl⟩) (pg_recv hK hP hL_ob hg_ob rfl) (fun U hU hvm => WM hP hK hD hKC0 hTC hS hU hvm) hXN rfl hl.1 rfl (lv_room (Nat.le_of_ble_eq_true rfl)) dX2_order_2 ⟨Nat.le_of_ble_eq_true rfl, Nat.le_of_ble_eq_true rfl⟩ hout hlocks (fun _ => rfl) (Nat.le_of_ble_eq_true rfl) (Nat.le_of_ble_eq_true rfl) (fun h9 => absurd h9 (by decide))
set_option maxHeartbeats 1000000 in
set_option maxRecDepth 100000 in
theorem c_X2_order_no2 (l : Launch) (hfl : l.stackTraces = false) {cyN : ClassId} (D : va_G) (tys : List (ClassId × FieldType)) (ad : Nat → Nat) (L : List Nat) (g : Nat → va_E) (ob arr nd : Nat) (made : Int32) (mvs : Int32) (twi : Int64) (tna : Int32) (fa : Nat → Option Nat) (i : Nat) (nlo : Int64) (nhi : Int64) (nv : Int64) (nst : Int64) (nhs : Int64) (nls : Int64) (ngs : Int64) (x1 : Int32) (x2 : Int32) (hi : i < 2) (hL_ob : ob ∈ L) (hL_arr : arr ∈ L) (hL_nd : nd ∈ L) (hg_ob : g ob = .inr (2, [.ref arr, .int made, .int mvs, .long twi, .int tna])) (hg_arr : g arr = .inl (cyN, 8, .inr (.inr (.inr (.inr fa))))) (hg_nd : g nd = .inr (1, [.ref (ad i), .long nlo, .long nhi, .long nv, .long nst, .long nhs, .long nls, .long ngs])) (htN : tys[2]? = some (cyN, .object RX1)) (hia : vp_in x1 8) (hfa : fa x1.toNatClampNeg = some nd) (hab2 : ¬ vp_in x2 8 ∨ fa x2.toNatClampNeg = none) : vx_Met l yX2_order wsX2_order ({ frames := 7, cells := 2, slots := 12, locals := 124 }) (PW D tys ad L g [.ref ob, .int x1, .int x2]) (QR (1) none) (XW D tys ad L g (1)) 2 12 (fun _ => False) := by
  refine vx_ofW (cc := cX2_order) (maxL := 7) (ret := (some .int)) (by decide) rfl ?_
  intro p e s m args below meth c s₁ B hml hout hv
  obtain ⟨rfl, ⟨hP, hK, hD0, hKC0, hTC⟩, hXN⟩ := hv
  have hP0 := hP
  have hD : va_D (fun q => q ∈ L) (va_pl L g) := we_D (fun _ h => h) hD0
  have hKC : KC ad (fun q => q ∈ L) s s.heap := hKC0.narrow (fun _ h => Or.inl h)
  have hS : va_S (fun q => q ∈ L) s.heap s.heap [] := va_S.rf
  have hx := B.exec
  have hb := B.bytes
  have hr := B.returns
  have hts := atoms_spec (ws := wsX2_order) B.pre
  have hown : s.vm.findClass RX2 = some m.cls := findClass_of_methodNamed B.named
  have hlocks := B.notSynchronized
  have hl := lv_entry ([.ref ob, .int x1, .int x2]) (n := 7) (Nat.le_of_ble_eq_true rfl)
  rw [lg_entry_eq]
  generalize (lg_sl ([.ref ob, .int x1, .int x2]) ++ List.replicate (7 - (lg_sl ([.ref ob, .int x1, .int x2])).length) Slot.unset).toArray = ls at hl ⊢
  have hl : lv_has ls 7 [(0, .ref ob), (1, .int x1), (2, .int x2)] := hl
  refine lv_aload_n hx hb dX2_order_0 rfl (lv_at hl 0 rfl) ?_
  refine lv_iload_n hx hb dX2_order_1 rfl (lv_at hl 1 rfl) ?_
  refine xp_V (b := ob) (As := [.int x1]) (rest := []) ⟨hx, hb, hml, hown, hts⟩ (c_X2_needleAt_ok l hfl D tys ad L g  ob arr nd made mvs twi tna fa x1 hL_ob hL_arr hg_ob hg_arr htN hia hfa) (cwV 1 hts gX2_order_X2_needleAt rfl rfl rfl hd_X2_needleAt ⟨Nat.le_of_ble_eq_true rfl, Nat.le_of_ble_eq_true rfl⟩) (pg_recv hK hP hL_ob hg_ob rfl) (fun U hU hvm => WM hP hK hD hKC0 hTC hS hU hvm) hXN rfl hl.1 rfl (lv_room (Nat.le_of_ble_eq_true rfl)) dX2_order_2 ⟨Nat.le_of_ble_eq_true rfl, Nat.le_of_ble_eq_true rfl⟩ hout hlocks (fun h9 => absurd rfl h9) (Nat.le_of_ble_eq_true rfl) (Nat.le_of_ble_eq_true rfl) (fun _ => ?_)
  refine W.eq (g2 := F0 m 5 ls [.ref nd]) rfl ?_
  refine rc_V (b := nd) (r := .long (fX1_fineValue i nlo nhi nv nst nhs nls ngs)) (As := []) (rest := []) ⟨hx, hb, hml, hown, hts⟩ (c_X1_fineValue l D tys ad L g  nd i nlo nhi nv nst nhs nls ngs hi hL_nd hg_nd) (cwV 0 hts gX2_order_X1_fineValue rfl rfl rfl hd_X1_fineValue ⟨Nat.le_of_ble_eq_true rfl, Nat.le_of_ble_eq_true rfl⟩) (pg_recv hK hP hL_nd hg_nd rfl) (fun U hU hvm => WM hP hK hD hKC0 hTC hS hU hvm) hXN rfl hl.1 rfl (lv_room (Nat.le_of_ble_eq_true rfl)) dX2_order_5 ⟨Nat.le_of_ble_eq_true rfl, Nat.le_of_ble_eq_true rfl⟩ ?_
  refine lv_topl (fun v8_2 e_v8_2 => ?_)
  refine lv_lstore_n (lv' := [(3, .long v8_2), (0, .ref ob), (1, .int x1), (2, .int x2)]) hx hb dX2_order_8 rfl hl (by decide) rfl (fun ls hl => ?_)
  refine lv_aload_n hx hb dX2_order_9 rfl (lv_at hl 1 rfl) ?_
  refine lv_iload_n hx hb dX2_order_10 rfl (lv_at hl 3 rfl) ?_
  exact xp_V (b := ob) (As := [.int x2]) (rest := []) ⟨hx, hb, hml, hown, hts⟩ (c_X2_needleAt_no l hfl D tys ad L g  ob arr made mvs twi tna fa x2 hL_ob hL_arr hg_ob hg_arr htN hab2) (cwV 1 hts gX2_order_X2_needleAt rfl rfl rfl hd_X2_needleAt ⟨Nat.le_of_ble_eq_true rfl, Nat.le_of_ble_eq_true rfl⟩) (pg_recv hK hP hL_ob hg_ob rfl) (fun U hU hvm => WM hP hK hD hKC0 hTC hS hU hvm) hXN rfl hl.1 rfl (lv_room (Nat.le_of_ble_eq_true rfl)) dX2_order_11 ⟨Nat.le_of_ble_eq_true rfl, Nat.le_of_ble_eq_true rfl⟩ hout hlocks (fun _ => rfl) (Nat.le_of_ble_eq_true rfl) (Nat.le_of_ble_eq_true rfl) (fun h9 => absurd h9 (by decide))
def fX2_order (made : Int32) (mvs : Int32) (twi : Int64) (tna : Int32) (fa : Nat → Option Nat) (i : Nat) (nlo : Int64) (nhi : Int64) (nv : Int64) (nst : Int64) (nhs : Int64) (nls : Int64) (ngs : Int64) (i2 : Nat) (mlo : Int64) (mhi : Int64) (mv : Int64) (mst : Int64) (mhs : Int64) (mls : Int64) (mgs : Int64) (x1 : Int32) (x2 : Int32) : Nat × Int32 :=
  let v8_2 : Int64 := fX1_fineValue i nlo nhi nv nst nhs nls ngs
  let v17_4 : Int64 := fX1_fineValue i2 mlo mhi mv mst mhs mls mgs
  if (fX0_isBelow 0 v8_2 v17_4) = 0 then
    if v8_2 = v17_4 then
      (0, (0 : Int32))
    else
      (0, (1 : Int32))
  else
    (0, (-1 : Int32))
set_option maxHeartbeats 1000000 in
set_option maxRecDepth 100000 in
theorem c_X2_order (l : Launch) (hfl : l.stackTraces = false) {cyN : ClassId} (D : va_G) (tys : List (ClassId × FieldType)) (ad : Nat → Nat) (L : List Nat) (g : Nat → va_E) (ob arr nd nd2 : Nat) (made : Int32) (mvs : Int32) (twi : Int64) (tna : Int32) (fa : Nat → Option Nat) (i : Nat) (nlo : Int64) (nhi : Int64) (nv : Int64) (nst : Int64) (nhs : Int64) (nls : Int64) (ngs : Int64) (i2 : Nat) (mlo : Int64) (mhi : Int64) (mv : Int64) (mst : Int64) (mhs : Int64) (mls : Int64) (mgs : Int64) (x1 : Int32) (x2 : Int32) (hi : i < 2) (hi_i2 : i2 < 2) (hL_ob : ob ∈ L) (hL_arr : arr ∈ L) (hL_nd : nd ∈ L) (hL_nd2 : nd2 ∈ L) (hg_ob : g ob = .inr (2, [.ref arr, .int made, .int mvs, .long twi, .int tna])) (hg_arr : g arr = .inl (cyN, 8, .inr (.inr (.inr (.inr fa))))) (hg_nd : g nd = .inr (1, [.ref (ad i), .long nlo, .long nhi, .long nv, .long nst, .long nhs, .long nls, .long ngs])) (hg_nd2 : g nd2 = .inr (1, [.ref (ad i2), .long mlo, .long mhi, .long mv, .long mst, .long mhs, .long mls, .long mgs])) (htN : tys[2]? = some (cyN, .object RX1)) (hia : vp_in x1 8) (hfa : fa x1.toNatClampNeg = some nd) (hia2 : vp_in x2 8) (hfa2 : fa x2.toNatClampNeg = some nd2) : vx_Met l yX2_order wsX2_order ({ frames := 7, cells := 2, slots := 12, locals := 124 }) (PW D tys ad L g [.ref ob, .int x1, .int x2]) (QR ((fX2_order made mvs twi tna fa i nlo nhi nv nst nhs nls ngs i2 mlo mhi mv mst mhs mls mgs x1 x2).1) (some (.int ((fX2_order made mvs twi tna fa i nlo nhi nv nst nhs nls ngs i2 mlo mhi mv mst mhs mls mgs x1 x2).2)))) (XW D tys ad L g ((fX2_order made mvs twi tna fa i nlo nhi nv nst nhs nls ngs i2 mlo mhi mv mst mhs mls mgs x1 x2).1)) 2 12 (fun _ => False) := by
  refine vx_ofW (cc := cX2_order) (maxL := 7) (ret := (some .int)) (by decide) rfl ?_
  intro p e s m args below meth c s₁ B hml hout hv
  obtain ⟨rfl, ⟨hP, hK, hD0, hKC0, hTC⟩, hXN⟩ := hv
  have hP0 := hP
  have hD : va_D (fun q => q ∈ L) (va_pl L g) := we_D (fun _ h => h) hD0
  have hKC : KC ad (fun q => q ∈ L) s s.heap := hKC0.narrow (fun _ h => Or.inl h)
  have hS : va_S (fun q => q ∈ L) s.heap s.heap [] := va_S.rf
  have hx := B.exec
  have hb := B.bytes
  have hr := B.returns
  have hts := atoms_spec (ws := wsX2_order) B.pre
  have hown : s.vm.findClass RX2 = some m.cls := findClass_of_methodNamed B.named
  have hlocks := B.notSynchronized
  have hl := lv_entry ([.ref ob, .int x1, .int x2]) (n := 7) (Nat.le_of_ble_eq_true rfl)
  rw [lg_entry_eq]
  generalize (lg_sl ([.ref ob, .int x1, .int x2]) ++ List.replicate (7 - (lg_sl ([.ref ob, .int x1, .int x2])).length) Slot.unset).toArray = ls at hl ⊢
  have hl : lv_has ls 7 [(0, .ref ob), (1, .int x1), (2, .int x2)] := hl
  refine lv_aload_n hx hb dX2_order_0 rfl (lv_at hl 0 rfl) ?_
  refine lv_iload_n hx hb dX2_order_1 rfl (lv_at hl 1 rfl) ?_
  refine xp_V (b := ob) (As := [.int x1]) (rest := []) ⟨hx, hb, hml, hown, hts⟩ (c_X2_needleAt_ok l hfl D tys ad L g  ob arr nd made mvs twi tna fa x1 hL_ob hL_arr hg_ob hg_arr htN hia hfa) (cwV 1 hts gX2_order_X2_needleAt rfl rfl rfl hd_X2_needleAt ⟨Nat.le_of_ble_eq_true rfl, Nat.le_of_ble_eq_true rfl⟩) (pg_recv hK hP hL_ob hg_ob rfl) (fun U hU hvm => WM hP hK hD hKC0 hTC hS hU hvm) hXN rfl hl.1 rfl (lv_room (Nat.le_of_ble_eq_true rfl)) dX2_order_2 ⟨Nat.le_of_ble_eq_true rfl, Nat.le_of_ble_eq_true rfl⟩ hout hlocks (fun h9 => absurd rfl h9) (Nat.le_of_ble_eq_true rfl) (Nat.le_of_ble_eq_true rfl) (fun _ => ?_)
  refine W.eq (g2 := F0 m 5 ls [.ref nd]) rfl ?_
  refine rc_V (b := nd) (r := .long (fX1_fineValue i nlo nhi nv nst nhs nls ngs)) (As := []) (rest := []) ⟨hx, hb, hml, hown, hts⟩ (c_X1_fineValue l D tys ad L g  nd i nlo nhi nv nst nhs nls ngs hi hL_nd hg_nd) (cwV 0 hts gX2_order_X1_fineValue rfl rfl rfl hd_X1_fineValue ⟨Nat.le_of_ble_eq_true rfl, Nat.le_of_ble_eq_true rfl⟩) (pg_recv hK hP hL_nd hg_nd rfl) (fun U hU hvm => WM hP hK hD hKC0 hTC hS hU hvm) hXN rfl hl.1 rfl (lv_room (Nat.le_of_ble_eq_true rfl)) dX2_order_5 ⟨Nat.le_of_ble_eq_true rfl, Nat.le_of_ble_eq_true rfl⟩ ?_
  refine lv_topl (fun v8_2 e_v8_2 => ?_)
  refine lv_lstore_n (lv' := [(3, .long v8_2), (0, .ref ob), (1, .int x1), (2, .int x2)]) hx hb dX2_order_8 rfl hl (by decide) rfl (fun ls hl => ?_)
  refine lv_aload_n hx hb dX2_order_9 rfl (lv_at hl 1 rfl) ?_
  refine lv_iload_n hx hb dX2_order_10 rfl (lv_at hl 3 rfl) ?_
  refine xp_V (b := ob) (As := [.int x2]) (rest := []) ⟨hx, hb, hml, hown, hts⟩ (c_X2_needleAt_ok l hfl D tys ad L g  ob arr nd2 made mvs twi tna fa x2 hL_ob hL_arr hg_ob hg_arr htN hia2 hfa2) (cwV 1 hts gX2_order_X2_needleAt rfl rfl rfl hd_X2_needleAt ⟨Nat.le_of_ble_eq_true rfl, Nat.le_of_ble_eq_true rfl⟩) (pg_recv hK hP hL_ob hg_ob rfl) (fun U hU hvm => WM hP hK hD hKC0 hTC hS hU hvm) hXN rfl hl.1 rfl (lv_room (Nat.le_of_ble_eq_true rfl)) dX2_order_11 ⟨Nat.le_of_ble_eq_true rfl, Nat.le_of_ble_eq_true rfl⟩ hout hlocks (fun h9 => absurd rfl h9) (Nat.le_of_ble_eq_true rfl) (Nat.le_of_ble_eq_true rfl) (fun _ => ?_)
  refine W.eq (g2 := F0 m 14 ls [.ref nd2]) rfl ?_
  refine rc_V (b := nd2) (r := .long (fX1_fineValue i2 mlo mhi mv mst mhs mls mgs)) (As := []) (rest := []) ⟨hx, hb, hml, hown, hts⟩ (c_X1_fineValue l D tys ad L g  nd2 i2 mlo mhi mv mst mhs mls mgs hi_i2 hL_nd2 hg_nd2) (cwV 0 hts gX2_order_X1_fineValue rfl rfl rfl hd_X1_fineValue ⟨Nat.le_of_ble_eq_true rfl, Nat.le_of_ble_eq_true rfl⟩) (pg_recv hK hP hL_nd2 hg_nd2 rfl) (fun U hU hvm => WM hP hK hD hKC0 hTC hS hU hvm) hXN rfl hl.1 rfl (lv_room (Nat.le_of_ble_eq_true rfl)) dX2_order_14 ⟨Nat.le_of_ble_eq_true rfl, Nat.le_of_ble_eq_true rfl⟩ ?_
  refine lv_topl (fun v17_4 e_v17_4 => ?_)
  refine lv_lstore (lv' := [(5, .long v17_4), (3, .long v8_2), (0, .ref ob), (1, .int x1), (2, .int x2)]) hx hb dX2_order_17 hl (by decide) rfl (fun ls hl => ?_)
  refine pk_fine hx hb hKC hS hown (hts (.fieldLink RX2 15 "NeedleBoard$Kind" "FINE" "LNeedleBoard$Kind;") (by decide +kernel)) dX2_order_19 ?_
  refine lv_lload_n hx hb dX2_order_22 rfl (lv_at hl 1 rfl) ?_
  refine lv_lload hx hb dX2_order_23 (lv_at hl 0 rfl) ?_
  refine pc_V (i := 0) (As := [.long v8_2, .long v17_4]) (rest := []) (r := .int (fX0_isBelow 0 v8_2 v17_4)) ⟨hx, hb, hml, hown, hts⟩ (c_X0_isBelow l ad 0 (by decide) v8_2 v17_4) (cwV 2 hts gX2_order_X0_isBelow rfl rfl rfl hd_X0_isBelow ⟨Nat.le_of_ble_eq_true rfl, Nat.le_of_ble_eq_true rfl⟩) hKC hS (by decide) rfl hl.1 rfl (lv_room (Nat.le_of_ble_eq_true rfl)) dX2_order_25 ⟨Nat.le_of_ble_eq_true rfl, Nat.le_of_ble_eq_true rfl⟩ ?_
  refine lv_if_eq (tgt := 33) hx hb dX2_order_28 (by decide) (fun c_5 => ?_) (fun c_5 => ?_)
  · refine lv_lload_n hx hb dX2_order_33 rfl (lv_at hl 1 rfl) ?_
    refine lv_lload hx hb dX2_order_34 (lv_at hl 0 rfl) ?_
    refine pl_ne (tgt := 44) hx hb dX2_order_36 dX2_order_37 (by decide) (fun c_6 => ?_) (fun c_6 => ?_)
    · refine lv_iconst (v := 1) hx hb dX2_order_44 (by decide) ?_
      have hF : fX2_order made mvs twi tna fa i nlo nhi nv nst nhs nls ngs i2 mlo mhi mv mst mhs mls mgs x1 x2 = (0, (1 : Int32)) := (by subst e_v8_2 e_v17_4; unfold fX2_order; dsimp only; rw [if_pos c_5, if_neg c_6])
      have hF0 : (fX2_order made mvs twi tna fa i nlo nhi nv nst nhs nls ngs i2 mlo mhi mv mst mhs mls mgs x1 x2).1 = 0 := by rw [hF]
      have hF1 : (fX2_order made mvs twi tna fa i nlo nhi nv nst nhs nls ngs i2 mlo mhi mv mst mhs mls mgs x1 x2).2 = (1 : Int32) := by rw [hF]
      exact vx_ret (W.widen (k := 2) (n := 12) (Nat.le_of_ble_eq_true rfl) (Nat.le_of_ble_eq_true rfl) (W.iret hx hb hr (fun t ht _ => ⟨hF0, congrArg (fun z => Outcome.returned (some (Value.int z))) hF1.symm, ht⟩) (fun _ h => nomatch h) dX2_order_45))
    · refine lv_iconst (v := 0) hx hb dX2_order_40 (by decide) ?_
      refine lv_goto (tgt := 45) hx hb dX2_order_41 (by decide) ?_
      have hF : fX2_order made mvs twi tna fa i nlo nhi nv nst nhs nls ngs i2 mlo mhi mv mst mhs mls mgs x1 x2 = (0, (0 : Int32)) := (by subst e_v8_2 e_v17_4; unfold fX2_order; dsimp only; rw [if_pos c_5, if_pos c_6])
      have hF0 : (fX2_order made mvs twi tna fa i nlo nhi nv nst nhs nls ngs i2 mlo mhi mv mst mhs mls mgs x1 x2).1 = 0 := by rw [hF]
      have hF1 : (fX2_order made mvs twi tna fa i nlo nhi nv nst nhs nls ngs i2 mlo mhi mv mst mhs mls mgs x1 x2).2 = (0 : Int32) := by rw [hF]
      exact vx_ret (W.widen (k := 2) (n := 12) (Nat.le_of_ble_eq_true rfl) (Nat.le_of_ble_eq_true rfl) (W.iret hx hb hr (fun t ht _ => ⟨hF0, congrArg (fun z => Outcome.returned (some (Value.int z))) hF1.symm, ht⟩) (fun _ h => nomatch h) dX2_order_45))
  · refine lv_iconst (v := (-1)) hx hb dX2_order_31 (by decide) ?_
    have hF : fX2_order made mvs twi tna fa i nlo nhi nv nst nhs nls ngs i2 mlo mhi mv mst mhs mls mgs x1 x2 = (0, (-1 : Int32)) := (by subst e_v8_2 e_v17_4; unfold fX2_order; dsimp only; rw [if_neg c_5])
    have hF0 : (fX2_order made mvs twi tna fa i nlo nhi nv nst nhs nls ngs i2 mlo mhi mv mst mhs mls mgs x1 x2).1 = 0 := by rw [hF]
    have hF1 : (fX2_order made mvs twi tna fa i nlo nhi nv nst nhs nls ngs i2 mlo mhi mv mst mhs mls mgs x1 x2).2 = (-1 : Int32) := by rw [hF]
    exact vx_ret (W.widen (k := 2) (n := 12) (Nat.le_of_ble_eq_true rfl) (Nat.le_of_ble_eq_true rfl) (W.iret hx hb hr (fun t ht _ => ⟨hF0, congrArg (fun z => Outcome.returned (some (Value.int z))) hF1.symm, ht⟩) (fun _ h => nomatch h) dX2_order_32))
def fX2_order_s (made : Int32) (mvs : Int32) (twi : Int64) (tna : Int32) (fa : Nat → Option Nat) (i : Nat) (nlo : Int64) (nhi : Int64) (nv : Int64) (nst : Int64) (nhs : Int64) (nls : Int64) (ngs : Int64) (x1 : Int32) (x2 : Int32) : Nat × Int32 :=
  let v8_2 : Int64 := fX1_fineValue i nlo nhi nv nst nhs nls ngs
  let v17_4 : Int64 := fX1_fineValue i nlo nhi nv nst nhs nls ngs
  if (fX0_isBelow 0 v8_2 v17_4) = 0 then
    if v8_2 = v17_4 then
      (0, (0 : Int32))
    else
      (0, (1 : Int32))
  else
    (0, (-1 : Int32))
set_option maxHeartbeats 1000000 in
set_option maxRecDepth 100000 in
theorem c_X2_order_s (l : Launch) (hfl : l.stackTraces = false) {cyN : ClassId} (D : va_G) (tys : List (ClassId × FieldType)) (ad : Nat → Nat) (L : List Nat) (g : Nat → va_E) (ob arr nd : Nat) (made : Int32) (mvs : Int32) (twi : Int64) (tna : Int32) (fa : Nat → Option Nat) (i : Nat) (nlo : Int64) (nhi : Int64) (nv : Int64) (nst : Int64) (nhs : Int64) (nls : Int64) (ngs : Int64) (x1 : Int32) (x2 : Int32) (hi : i < 2) (hL_ob : ob ∈ L) (hL_arr : arr ∈ L) (hL_nd : nd ∈ L) (hg_ob : g ob = .inr (2, [.ref arr, .int made, .int mvs, .long twi, .int tna])) (hg_arr : g arr = .inl (cyN, 8, .inr (.inr (.inr (.inr fa))))) (hg_nd : g nd = .inr (1, [.ref (ad i), .long nlo, .long nhi, .long nv, .long nst, .long nhs, .long nls, .long ngs])) (htN : tys[2]? = some (cyN, .object RX1)) (hia : vp_in x1 8) (hfa : fa x1.toNatClampNeg = some nd) (hia2 : vp_in x2 8) (hfa2 : fa x2.toNatClampNeg = some nd) : vx_Met l yX2_order wsX2_order ({ frames := 7, cells := 2, slots := 12, locals := 124 }) (PW D tys ad L g [.ref ob, .int x1, .int x2]) (QR ((fX2_order_s made mvs twi tna fa i nlo nhi nv nst nhs nls ngs x1 x2).1) (some (.int ((fX2_order_s made mvs twi tna fa i nlo nhi nv nst nhs nls ngs x1 x2).2)))) (XW D tys ad L g ((fX2_order_s made mvs twi tna fa i nlo nhi nv nst nhs nls ngs x1 x2).1)) 2 12 (fun _ => False) := by
  refine vx_ofW (cc := cX2_order) (maxL := 7) (ret := (some .int)) (by decide) rfl ?_
  intro p e s m args below meth c s₁ B hml hout hv
  obtain ⟨rfl, ⟨hP, hK, hD0, hKC0, hTC⟩, hXN⟩ := hv
  have hP0 := hP
  have hD : va_D (fun q => q ∈ L) (va_pl L g) := we_D (fun _ h => h) hD0
  have hKC : KC ad (fun q => q ∈ L) s s.heap := hKC0.narrow (fun _ h => Or.inl h)
  have hS : va_S (fun q => q ∈ L) s.heap s.heap [] := va_S.rf
  have hx := B.exec
  have hb := B.bytes
  have hr := B.returns
  have hts := atoms_spec (ws := wsX2_order) B.pre
  have hown : s.vm.findClass RX2 = some m.cls := findClass_of_methodNamed B.named
  have hlocks := B.notSynchronized
  have hl := lv_entry ([.ref ob, .int x1, .int x2]) (n := 7) (Nat.le_of_ble_eq_true rfl)
  rw [lg_entry_eq]
  generalize (lg_sl ([.ref ob, .int x1, .int x2]) ++ List.replicate (7 - (lg_sl ([.ref ob, .int x1, .int x2])).length) Slot.unset).toArray = ls at hl ⊢
  have hl : lv_has ls 7 [(0, .ref ob), (1, .int x1), (2, .int x2)] := hl
  refine lv_aload_n hx hb dX2_order_0 rfl (lv_at hl 0 rfl) ?_
  refine lv_iload_n hx hb dX2_order_1 rfl (lv_at hl 1 rfl) ?_
  refine xp_V (b := ob) (As := [.int x1]) (rest := []) ⟨hx, hb, hml, hown, hts⟩ (c_X2_needleAt_ok l hfl D tys ad L g  ob arr nd made mvs twi tna fa x1 hL_ob hL_arr hg_ob hg_arr htN hia hfa) (cwV 1 hts gX2_order_X2_needleAt rfl rfl rfl hd_X2_needleAt ⟨Nat.le_of_ble_eq_true rfl, Nat.le_of_ble_eq_true rfl⟩) (pg_recv hK hP hL_ob hg_ob rfl) (fun U hU hvm => WM hP hK hD hKC0 hTC hS hU hvm) hXN rfl hl.1 rfl (lv_room (Nat.le_of_ble_eq_true rfl)) dX2_order_2 ⟨Nat.le_of_ble_eq_true rfl, Nat.le_of_ble_eq_true rfl⟩ hout hlocks (fun h9 => absurd rfl h9) (Nat.le_of_ble_eq_true rfl) (Nat.le_of_ble_eq_true rfl) (fun _ => ?_)
  refine W.eq (g2 := F0 m 5 ls [.ref nd]) rfl ?_
  refine rc_V (b := nd) (r := .long (fX1_fineValue i nlo nhi nv nst nhs nls ngs)) (As := []) (rest := []) ⟨hx, hb, hml, hown, hts⟩ (c_X1_fineValue l D tys ad L g  nd i nlo nhi nv nst nhs nls ngs hi hL_nd hg_nd) (cwV 0 hts gX2_order_X1_fineValue rfl rfl rfl hd_X1_fineValue ⟨Nat.le_of_ble_eq_true rfl, Nat.le_of_ble_eq_true rfl⟩) (pg_recv hK hP hL_nd hg_nd rfl) (fun U hU hvm => WM hP hK hD hKC0 hTC hS hU hvm) hXN rfl hl.1 rfl (lv_room (Nat.le_of_ble_eq_true rfl)) dX2_order_5 ⟨Nat.le_of_ble_eq_true rfl, Nat.le_of_ble_eq_true rfl⟩ ?_
  refine lv_topl (fun v8_2 e_v8_2 => ?_)
  refine lv_lstore_n (lv' := [(3, .long v8_2), (0, .ref ob), (1, .int x1), (2, .int x2)]) hx hb dX2_order_8 rfl hl (by decide) rfl (fun ls hl => ?_)
  refine lv_aload_n hx hb dX2_order_9 rfl (lv_at hl 1 rfl) ?_
  refine lv_iload_n hx hb dX2_order_10 rfl (lv_at hl 3 rfl) ?_
  refine xp_V (b := ob) (As := [.int x2]) (rest := []) ⟨hx, hb, hml, hown, hts⟩ (c_X2_needleAt_ok l hfl D tys ad L g  ob arr nd made mvs twi tna fa x2 hL_ob hL_arr hg_ob hg_arr htN hia2 hfa2) (cwV 1 hts gX2_order_X2_needleAt rfl rfl rfl hd_X2_needleAt ⟨Nat.le_of_ble_eq_true rfl, Nat.le_of_ble_eq_true rfl⟩) (pg_recv hK hP hL_ob hg_ob rfl) (fun U hU hvm => WM hP hK hD hKC0 hTC hS hU hvm) hXN rfl hl.1 rfl (lv_room (Nat.le_of_ble_eq_true rfl)) dX2_order_11 ⟨Nat.le_of_ble_eq_true rfl, Nat.le_of_ble_eq_true rfl⟩ hout hlocks (fun h9 => absurd rfl h9) (Nat.le_of_ble_eq_true rfl) (Nat.le_of_ble_eq_true rfl) (fun _ => ?_)
  refine W.eq (g2 := F0 m 14 ls [.ref nd]) rfl ?_
  refine rc_V (b := nd) (r := .long (fX1_fineValue i nlo nhi nv nst nhs nls ngs)) (As := []) (rest := []) ⟨hx, hb, hml, hown, hts⟩ (c_X1_fineValue l D tys ad L g  nd i nlo nhi nv nst nhs nls ngs hi hL_nd hg_nd) (cwV 0 hts gX2_order_X1_fineValue rfl rfl rfl hd_X1_fineValue ⟨Nat.le_of_ble_eq_true rfl, Nat.le_of_ble_eq_true rfl⟩) (pg_recv hK hP hL_nd hg_nd rfl) (fun U hU hvm => WM hP hK hD hKC0 hTC hS hU hvm) hXN rfl hl.1 rfl (lv_room (Nat.le_of_ble_eq_true rfl)) dX2_order_14 ⟨Nat.le_of_ble_eq_true rfl, Nat.le_of_ble_eq_true rfl⟩ ?_
  refine lv_topl (fun v17_4 e_v17_4 => ?_)
  refine lv_lstore (lv' := [(5, .long v17_4), (3, .long v8_2), (0, .ref ob), (1, .int x1), (2, .int x2)]) hx hb dX2_order_17 hl (by decide) rfl (fun ls hl => ?_)
  refine pk_fine hx hb hKC hS hown (hts (.fieldLink RX2 15 "NeedleBoard$Kind" "FINE" "LNeedleBoard$Kind;") (by decide +kernel)) dX2_order_19 ?_
  refine lv_lload_n hx hb dX2_order_22 rfl (lv_at hl 1 rfl) ?_
  refine lv_lload hx hb dX2_order_23 (lv_at hl 0 rfl) ?_
  refine pc_V (i := 0) (As := [.long v8_2, .long v17_4]) (rest := []) (r := .int (fX0_isBelow 0 v8_2 v17_4)) ⟨hx, hb, hml, hown, hts⟩ (c_X0_isBelow l ad 0 (by decide) v8_2 v17_4) (cwV 2 hts gX2_order_X0_isBelow rfl rfl rfl hd_X0_isBelow ⟨Nat.le_of_ble_eq_true rfl, Nat.le_of_ble_eq_true rfl⟩) hKC hS (by decide) rfl hl.1 rfl (lv_room (Nat.le_of_ble_eq_true rfl)) dX2_order_25 ⟨Nat.le_of_ble_eq_true rfl, Nat.le_of_ble_eq_true rfl⟩ ?_
  refine lv_if_eq (tgt := 33) hx hb dX2_order_28 (by decide) (fun c_5 => ?_) (fun c_5 => ?_)
  · refine lv_lload_n hx hb dX2_order_33 rfl (lv_at hl 1 rfl) ?_
    refine lv_lload hx hb dX2_order_34 (lv_at hl 0 rfl) ?_
    refine pl_ne (tgt := 44) hx hb dX2_order_36 dX2_order_37 (by decide) (fun c_6 => ?_) (fun c_6 => ?_)
    · refine lv_iconst (v := 1) hx hb dX2_order_44 (by decide) ?_
      have hF : fX2_order_s made mvs twi tna fa i nlo nhi nv nst nhs nls ngs x1 x2 = (0, (1 : Int32)) := (by subst e_v8_2 e_v17_4; unfold fX2_order_s; dsimp only; rw [if_pos c_5, if_neg c_6])
      have hF0 : (fX2_order_s made mvs twi tna fa i nlo nhi nv nst nhs nls ngs x1 x2).1 = 0 := by rw [hF]
      have hF1 : (fX2_order_s made mvs twi tna fa i nlo nhi nv nst nhs nls ngs x1 x2).2 = (1 : Int32) := by rw [hF]
      exact vx_ret (W.widen (k := 2) (n := 12) (Nat.le_of_ble_eq_true rfl) (Nat.le_of_ble_eq_true rfl) (W.iret hx hb hr (fun t ht _ => ⟨hF0, congrArg (fun z => Outcome.returned (some (Value.int z))) hF1.symm, ht⟩) (fun _ h => nomatch h) dX2_order_45))
    · refine lv_iconst (v := 0) hx hb dX2_order_40 (by decide) ?_
      refine lv_goto (tgt := 45) hx hb dX2_order_41 (by decide) ?_
      have hF : fX2_order_s made mvs twi tna fa i nlo nhi nv nst nhs nls ngs x1 x2 = (0, (0 : Int32)) := (by subst e_v8_2 e_v17_4; unfold fX2_order_s; dsimp only; rw [if_pos c_5, if_pos c_6])
      have hF0 : (fX2_order_s made mvs twi tna fa i nlo nhi nv nst nhs nls ngs x1 x2).1 = 0 := by rw [hF]
      have hF1 : (fX2_order_s made mvs twi tna fa i nlo nhi nv nst nhs nls ngs x1 x2).2 = (0 : Int32) := by rw [hF]
      exact vx_ret (W.widen (k := 2) (n := 12) (Nat.le_of_ble_eq_true rfl) (Nat.le_of_ble_eq_true rfl) (W.iret hx hb hr (fun t ht _ => ⟨hF0, congrArg (fun z => Outcome.returned (some (Value.int z))) hF1.symm, ht⟩) (fun _ h => nomatch h) dX2_order_45))
  · refine lv_iconst (v := (-1)) hx hb dX2_order_31 (by decide) ?_
    have hF : fX2_order_s made mvs twi tna fa i nlo nhi nv nst nhs nls ngs x1 x2 = (0, (-1 : Int32)) := (by subst e_v8_2 e_v17_4; unfold fX2_order_s; dsimp only; rw [if_neg c_5])
    have hF0 : (fX2_order_s made mvs twi tna fa i nlo nhi nv nst nhs nls ngs x1 x2).1 = 0 := by rw [hF]
    have hF1 : (fX2_order_s made mvs twi tna fa i nlo nhi nv nst nhs nls ngs x1 x2).2 = (-1 : Int32) := by rw [hF]
    exact vx_ret (W.widen (k := 2) (n := 12) (Nat.le_of_ble_eq_true rfl) (Nat.le_of_ble_eq_true rfl) (W.iret hx hb hr (fun t ht _ => ⟨hF0, congrArg (fun z => Outcome.returned (some (Value.int z))) hF1.symm, ht⟩) (fun _ h => nomatch h) dX2_order_32))
def fX2_tally (made : Int32) (mvs : Int32) (twi : Int64) (tna : Int32) (x1 : Int32) (x2 : Int32) (x3 : Int64) : Nat × Int64 × Int64 × Int32 :=
  if x2 < 0 then
    (2, (0 : Int64), twi, tna)
  else
    if x2 ≤ (4 : Int32) then
      if x1 = 0 then
        (0, ((fX2_tallied x2 tna.toInt64 x3.toInt32.toInt64).toInt32).toInt64, twi, (fX2_tallied x2 tna.toInt64 x3.toInt32.toInt64).toInt32)
      else
        (0, fX2_tallied x2 twi x3, fX2_tallied x2 twi x3, tna)
    else
      (2, (0 : Int64), twi, tna)
theorem hd_X2_tally : yX2_tally.cls = RX2 ∧ yX2_tally.cls ≠ "java/lang/invoke/MethodHandle" ∧ yX2_tally.cls ≠ "java/lang/invoke/VarHandle" ∧ (parseMethodDescriptor yX2_tally.desc).map (fun d => d.parameters.length) = some 3 := by decide +kernel
theorem hin_X2_X2_tally : ∀ w ∈ wsX20, w ∈ wsX2_tally := by decide +kernel
theorem hgA_X2_tally : ∀ w ∈ (vx_atS RX2 36 "java/lang/IllegalArgumentException" ["java/lang/RuntimeException", "java/lang/Exception"]).filter goodWord, w ∈ wsX2_tally := by
  intro w h
  simp only [wsX2_tally, List.mem_cons, List.mem_append]
  simp only [h, or_true, true_or]
set_option maxHeartbeats 1000000 in
set_option maxRecDepth 100000 in
theorem c_X2_tally (l : Launch) (hfl : l.stackTraces = false) (D : va_G) (tys : List (ClassId × FieldType)) (ad : Nat → Nat) (L : List Nat) (g : Nat → va_E) (ob arr : Nat) (made : Int32) (mvs : Int32) (twi : Int64) (tna : Int32) (x1 : Int32) (x2 : Int32) (x3 : Int64) (hL_ob : ob ∈ L) (hg_ob : g ob = .inr (2, [.ref arr, .int made, .int mvs, .long twi, .int tna])) : vx_Met l yX2_tally wsX2_tally ({ frames := 6, cells := 1, slots := 6, locals := 82 }) (PW D tys ad L g [.ref ob, .int x1, .int x2, .long x3]) (QEc D tys ad L ((fX2_tally made mvs twi tna x1 x2 x3).1) (some (.long ((fX2_tally made mvs twi tna x1 x2 x3).2.1))) (fun g1 => g1 ob = .inr (2, [.ref arr, .int made, .int mvs, .long ((fX2_tally made mvs twi tna x1 x2 x3).2.2.1), .int ((fX2_tally made mvs twi tna x1 x2 x3).2.2.2)]) ∧ ∀ q : Nat, q ≠ ob → g1 q = g q)) (XW D tys ad L g ((fX2_tally made mvs twi tna x1 x2 x3).1)) 1 6 (fun q => q ∈ L) := by
  refine vx_ofW (cc := cX2_tally) (maxL := 5) (ret := (some .long)) (by decide) rfl ?_
  intro p e s m args below meth c s₁ B hml hout hv
  obtain ⟨rfl, ⟨hP, hK, hD0, hKC0, hTC⟩, hXN⟩ := hv
  have hP0 := hP
  have hD : va_D (fun q => q ∈ L) (va_pl L g) := we_D (fun _ h => h) hD0
  have hKC : KC ad (fun q => q ∈ L) s s.heap := hKC0.narrow (fun _ h => Or.inl h)
  have hS : va_S (fun q => q ∈ L) s.heap s.heap [] := va_S.rf
  have hx := B.exec
  have hb := B.bytes
  have hr := B.returns
  have hts := atoms_spec (ws := wsX2_tally) B.pre
  have hown : s.vm.findClass RX2 = some m.cls := findClass_of_methodNamed B.named
  have hlocks := B.notSynchronized
  have hrs : ∀ q : Nat, q ≠ ob → g q = g q := fun q _ => rfl
  have hl := lv_entry ([.ref ob, .int x1, .int x2, .long x3]) (n := 5) (Nat.le_of_ble_eq_true rfl)
  rw [lg_entry_eq]
  generalize (lg_sl ([.ref ob, .int x1, .int x2, .long x3]) ++ List.replicate (5 - (lg_sl ([.ref ob, .int x1, .int x2, .long x3])).length) Slot.unset).toArray = ls at hl ⊢
  have hl : lv_has ls 5 [(0, .ref ob), (1, .int x1), (2, .int x2), (3, .long x3)] := hl
  refine lv_iload_n hx hb dX2_tally_0 rfl (lv_at hl 2 rfl) ?_
  refine lv_if_lt (tgt := 9) hx hb dX2_tally_1 (by decide) (fun c_1 => ?_) (fun c_1 => ?_)
  · have hF : fX2_tally made mvs twi tna x1 x2 x3 = (2, (0 : Int64), twi, tna) := (by unfold fX2_tally; rw [if_pos c_1])
    exact th_A (is := 145) (text := "there is no such way to tally") hx hb hfl hown (hts (.classLink RX2 32 "java/lang/IllegalArgumentException") (by decide +kernel)) (hts (.initialized "java/lang/IllegalArgumentException") (by decide +kernel)) (fun w hw => hts w (hgA_X2_tally w hw)) hXN (by decide +kernel) hP0 hK hD0 hKC0 hTC (hl.1.trans hml.symm) dX2_tally_9 dX2_tally_12 dX2_tally_13 dX2_tally_15 dX2_tally_18 hout (Nat.le_of_ble_eq_true rfl) (Nat.le_of_ble_eq_true rfl) (Nat.le_of_ble_eq_true rfl) (Nat.le_of_ble_eq_true rfl) hlocks (by rw [hF]) (Nat.le_of_ble_eq_true rfl) (Nat.le_of_ble_eq_true rfl)
  · refine lv_iload_n hx hb dX2_tally_4 rfl (lv_at hl 2 rfl) ?_
    refine lv_iconst (v := 4) hx hb dX2_tally_5 (by decide) ?_
    refine lv_icmp_le (tgt := 19) hx hb dX2_tally_6 (by decide) (fun c_2 => ?_) (fun c_2 => ?_)
    · refine lv_iload_n hx hb dX2_tally_19 rfl (lv_at hl 1 rfl) ?_
      refine lv_if_eq (tgt := 41) hx hb dX2_tally_20 (by decide) (fun c_3 => ?_) (fun c_3 => ?_)
      · refine lv_aload_n hx hb dX2_tally_41 rfl (lv_at hl 0 rfl) ?_
        refine lv_iload_n hx hb dX2_tally_42 rfl (lv_at hl 2 rfl) ?_
        refine lv_aload_n hx hb dX2_tally_43 rfl (lv_at hl 0 rfl) ?_
        refine pg_get hx hb hts hin_X2_X2_tally hown hK hP hL_ob hg_ob rfl 4 (by decide) (hts (.fieldLink RX2 154 "NeedleBoard" "narrowTally" "I") (by decide +kernel)) rfl dX2_tally_44 ?_
        refine lv_i2l hx hb dX2_tally_47 rfl ?_
        refine lv_lload_n hx hb dX2_tally_48 rfl (lv_at hl 3 rfl) ?_
        refine lv_l2i hx hb dX2_tally_49 rfl ?_
        refine lv_i2l hx hb dX2_tally_50 rfl ?_
        refine pc_0 (As := [.int x2, .long tna.toInt64, .long x3.toInt32.toInt64]) (rest := [.ref ob]) (r := .long (fX2_tallied x2 tna.toInt64 x3.toInt32.toInt64)) ⟨hx, hb, hml, hown, hts⟩ (c_X2_tallied l x2 tna.toInt64 x3.toInt32.toInt64) (va_cwS 3 hts gX2_tally_X2_tallied rfl rfl rfl hd_X2_tallied ⟨Nat.le_of_ble_eq_true rfl, Nat.le_of_ble_eq_true rfl⟩) rfl hl.1 rfl (lv_room (Nat.le_of_ble_eq_true rfl)) dX2_tally_51 ⟨Nat.le_of_ble_eq_true rfl, Nat.le_of_ble_eq_true rfl⟩ ?_
        refine lv_l2i hx hb dX2_tally_54 rfl ?_
        refine pg_put (ty := .int) hx hb hts hin_X2_X2_tally tyX2 tyX2_ok nmX2 hown hK hP hD hS hL_ob hg_ob rfl 4 (by decide) (hts (.fieldLink RX2 154 "NeedleBoard" "narrowTally" "I") (by decide +kernel)) rfl (by decide +kernel) rfl rfl (Nat.le_of_ble_eq_true rfl) dX2_tally_55 (fun H locs hP hD hS => ?_)
        obtain ⟨g1, eg1⟩ : ∃ z : Nat → va_E, z = va_up g ob (.inr (2, [.ref arr, .int made, .int mvs, .long twi, .int ((fX2_tallied x2 tna.toInt64 x3.toInt32.toInt64).toInt32)])) := ⟨_, rfl⟩
        have hP : va_P D vwCl (va_pl L g1) H := by rw [eg1]; exact hP
        have hD : va_D (fun q => q ∈ L) (va_pl L g1) := by rw [eg1]; exact hD
        have hg_ob : g1 ob = .inr (2, [.ref arr, .int made, .int mvs, .long twi, .int ((fX2_tallied x2 tna.toInt64 x3.toInt32.toInt64).toInt32)]) := by rw [eg1]; exact va_up_self _ _ _
        have hrs : ∀ q : Nat, q ≠ ob → g1 q = g q := fun q h_ob => (congrFun eg1 q).trans ((va_up_ne _ _ h_ob).trans (hrs q h_ob))
        refine lv_aload_n hx hb dX2_tally_58 rfl (lv_at hl 0 rfl) ?_
        refine pg_get hx hb hts hin_X2_X2_tally hown hK hP hL_ob hg_ob rfl 4 (by decide) (hts (.fieldLink RX2 154 "NeedleBoard" "narrowTally" "I") (by decide +kernel)) rfl dX2_tally_59 ?_
        refine lv_i2l hx hb dX2_tally_62 rfl ?_
        have hF : fX2_tally made mvs twi tna x1 x2 x3 = (0, ((fX2_tallied x2 tna.toInt64 x3.toInt32.toInt64).toInt32).toInt64, twi, (fX2_tallied x2 tna.toInt64 x3.toInt32.toInt64).toInt32) := (by unfold fX2_tally; rw [if_neg c_1, if_pos c_2, if_pos c_3])
        have hF0 : (fX2_tally made mvs twi tna x1 x2 x3).1 = 0 := by rw [hF]
        have hF1 : (fX2_tally made mvs twi tna x1 x2 x3).2.1 = ((fX2_tallied x2 tna.toInt64 x3.toInt32.toInt64).toInt32).toInt64 := by rw [hF]
        have hF2 : (fX2_tally made mvs twi tna x1 x2 x3).2.2.1 = twi := by rw [hF]
        have hF3 : (fX2_tally made mvs twi tna x1 x2 x3).2.2.2 = (fX2_tallied x2 tna.toInt64 x3.toInt32.toInt64).toInt32 := by rw [hF]
        exact vx_ret (W.widen (k := 1) (n := 6) (Nat.le_of_ble_eq_true rfl) (Nat.le_of_ble_eq_true rfl) (W.lret hx hb hr (fun t ht hW => ⟨hF0, congrArg (fun z => Outcome.returned (some (Value.long z))) hF1.symm, ⟨g1, WM hP hK hD hKC0 hTC hS ht hW.alike, by rw [hF2, hF3]; exact ⟨hg_ob, hrs⟩⟩, hS.F ht⟩) (fun q h => hS.2.2 q h) dX2_tally_63))
      · refine lv_aload_n hx hb dX2_tally_23 rfl (lv_at hl 0 rfl) ?_
        refine lv_iload_n hx hb dX2_tally_24 rfl (lv_at hl 2 rfl) ?_
        refine lv_aload_n hx hb dX2_tally_25 rfl (lv_at hl 0 rfl) ?_
        refine pg_get hx hb hts hin_X2_X2_tally hown hK hP hL_ob hg_ob rfl 3 (by decide) (hts (.fieldLink RX2 147 "NeedleBoard" "wideTally" "J") (by decide +kernel)) rfl dX2_tally_26 ?_
        refine lv_lload_n hx hb dX2_tally_29 rfl (lv_at hl 3 rfl) ?_
        refine pc_0 (As := [.int x2, .long twi, .long x3]) (rest := [.ref ob]) (r := .long (fX2_tallied x2 twi x3)) ⟨hx, hb, hml, hown, hts⟩ (c_X2_tallied l x2 twi x3) (va_cwS 3 hts gX2_tally_X2_tallied rfl rfl rfl hd_X2_tallied ⟨Nat.le_of_ble_eq_true rfl, Nat.le_of_ble_eq_true rfl⟩) rfl hl.1 rfl (lv_room (Nat.le_of_ble_eq_true rfl)) dX2_tally_30 ⟨Nat.le_of_ble_eq_true rfl, Nat.le_of_ble_eq_true rfl⟩ ?_
        refine pg_put (ty := .long) hx hb hts hin_X2_X2_tally tyX2 tyX2_ok nmX2 hown hK hP hD hS hL_ob hg_ob rfl 3 (by decide) (hts (.fieldLink RX2 147 "NeedleBoard" "wideTally" "J") (by decide +kernel)) rfl (by decide +kernel) rfl rfl (Nat.le_of_ble_eq_true rfl) dX2_tally_33 (fun H locs hP hD hS => ?_)
        obtain ⟨g1, eg1⟩ : ∃ z : Nat → va_E, z = va_up g ob (.inr (2, [.ref arr, .int made, .int mvs, .long (fX2_tallied x2 twi x3), .int tna])) := ⟨_, rfl⟩
        have hP : va_P D vwCl (va_pl L g1) H := by rw [eg1]; exact hP
        have hD : va_D (fun q => q ∈ L) (va_pl L g1) := by rw [eg1]; exact hD
        have hg_ob : g1 ob = .inr (2, [.ref arr, .int made, .int mvs, .long (fX2_tallied x2 twi x3), .int tna]) := by rw [eg1]; exact va_up_self _ _ _
        have hrs : ∀ q : Nat, q ≠ ob → g1 q = g q := fun q h_ob => (congrFun eg1 q).trans ((va_up_ne _ _ h_ob).trans (hrs q h_ob))
        refine lv_aload_n hx hb dX2_tally_36 rfl (lv_at hl 0 rfl) ?_
        refine pg_get hx hb hts hin_X2_X2_tally hown hK hP hL_ob hg_ob rfl 3 (by decide) (hts (.fieldLink RX2 147 "NeedleBoard" "wideTally" "J") (by decide +kernel)) rfl dX2_tally_37 ?_
        have hF : fX2_tally made mvs twi tna x1 x2 x3 = (0, fX2_tallied x2 twi x3, fX2_tallied x2 twi x3, tna) := (by unfold fX2_tally; rw [if_neg c_1, if_pos c_2, if_neg c_3])
        have hF0 : (fX2_tally made mvs twi tna x1 x2 x3).1 = 0 := by rw [hF]
        have hF1 : (fX2_tally made mvs twi tna x1 x2 x3).2.1 = fX2_tallied x2 twi x3 := by rw [hF]
        have hF2 : (fX2_tally made mvs twi tna x1 x2 x3).2.2.1 = fX2_tallied x2 twi x3 := by rw [hF]
        have hF3 : (fX2_tally made mvs twi tna x1 x2 x3).2.2.2 = tna := by rw [hF]
        exact vx_ret (W.widen (k := 1) (n := 6) (Nat.le_of_ble_eq_true rfl) (Nat.le_of_ble_eq_true rfl) (W.lret hx hb hr (fun t ht hW => ⟨hF0, congrArg (fun z => Outcome.returned (some (Value.long z))) hF1.symm, ⟨g1, WM hP hK hD hKC0 hTC hS ht hW.alike, by rw [hF2, hF3]; exact ⟨hg_ob, hrs⟩⟩, hS.F ht⟩) (fun q h => hS.2.2 q h) dX2_tally_40))
    · have hF : fX2_tally made mvs twi tna x1 x2 x3 = (2, (0 : Int64), twi, tna) := (by unfold fX2_tally; rw [if_neg c_1, if_neg c_2])
      exact th_A (is := 145) (text := "there is no such way to tally") hx hb hfl hown (hts (.classLink RX2 32 "java/lang/IllegalArgumentException") (by decide +kernel)) (hts (.initialized "java/lang/IllegalArgumentException") (by decide +kernel)) (fun w hw => hts w (hgA_X2_tally w hw)) hXN (by decide +kernel) hP0 hK hD0 hKC0 hTC (hl.1.trans hml.symm) dX2_tally_9 dX2_tally_12 dX2_tally_13 dX2_tally_15 dX2_tally_18 hout (Nat.le_of_ble_eq_true rfl) (Nat.le_of_ble_eq_true rfl) (Nat.le_of_ble_eq_true rfl) (Nat.le_of_ble_eq_true rfl) hlocks (by rw [hF]) (Nat.le_of_ble_eq_true rfl) (Nat.le_of_ble_eq_true rfl)
