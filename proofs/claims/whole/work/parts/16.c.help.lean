theorem hd_L_face : yL_face.cls ≠ "java/lang/invoke/MethodHandle" ∧ yL_face.cls ≠ "java/lang/invoke/VarHandle" ∧ (parseMethodDescriptor yL_face.desc).map (fun d => d.parameters.length) = some 4 := by decide +kernel
set_option maxHeartbeats 1000000 in
set_option maxRecDepth 100000 in
theorem c_L_face_no (l : Launch) (hfl : l.stackTraces = false) {cyJ : ClassId} {cyN : ClassId} (D : va_G) (tys : List (ClassId × FieldType)) (ad : Nat → Nat) (L : List Nat) (g : Nat → va_E) (ob arr out : Nat) (made : Int32) (mvs : Int32) (twi : Int64) (tna : Int32) (fa : Nat → Option Nat) (x1 : Int32) (x2 : Int32) (fo : Nat → Int64) (hL_ob : ob ∈ L) (hL_arr : arr ∈ L) (hg_ob : g ob = .inr (2, [.ref arr, .int made, .int mvs, .long twi, .int tna])) (hg_arr : g arr = .inl (cyN, 8, .inr (.inr (.inr (.inr fa))))) (htN : tys[2]? = some (cyN, .object RX1)) (hab : ¬ vp_in x1 8 ∨ fa x1.toNatClampNeg = none) (hL_out : out ∈ L) (hg_out : g out = .inl (cyJ, 1, .inr (.inl fo))) (htJ : tys[0]? = some (cyJ, .long)) : Met l yL_face wsL_face ({ frames := 8, cells := 1, slots := 6, locals := 128 }) (PW D tys ad L g [.ref ob, .int x1, .int x2, .ref out]) (QE D tys ad L (some (.int (nI (1)))) (fun g1 => ∀ q : Nat, g1 q = g q)) 1 6 (fun q => q ∈ L) := by
  refine va_MetW (cc := cL_face) (maxL := 5) (ret := some .int) (hh := [(0, 9, 12, 21)]) (by decide) rfl ?_
  intro p e s m args below meth c s₁ B hml hv
  obtain ⟨rfl, ⟨hP, hK, hD0, hKC0, hTC⟩, hXN⟩ := hv
  have hD : va_D (fun q => q ∈ L) (va_pl L g) := we_D (fun _ h => h) hD0
  have hKC : KC ad (fun q => q ∈ L) s s.heap := hKC0.narrow (fun _ h => Or.inl h)
  have hS : va_S (fun q => q ∈ L) s.heap s.heap [] := va_S.rf
  have hx := B.exec
  have hb := B.bytes
  have hr := B.returns
  have hts := atoms_spec (ws := wsL_face) B.pre
  have hown : s.vm.findClass RL = some m.cls := findClass_of_methodNamed B.named
  have hlocks := B.notSynchronized
  have hT := vx_table (x := yL_face) B (hts _ List.mem_cons_self)
  have hl := lv_entry ([.ref ob, .int x1, .int x2, .ref out]) (n := 5) (Nat.le_of_ble_eq_true rfl)
  rw [lg_entry_eq]
  generalize (lg_sl ([.ref ob, .int x1, .int x2, .ref out]) ++ List.replicate (5 - (lg_sl ([.ref ob, .int x1, .int x2, .ref out])).length) Slot.unset).toArray = ls at hl ⊢
  have hl : lv_has ls 5 [(0, .ref ob), (1, .int x1), (2, .int x2), (3, .ref out)] := hl
  refine lv_aload_n hx hb dL_face_0 rfl (lv_at hl 3 rfl) ?_
  refine lv_iconst (v := 0) hx hb dL_face_1 (by decide) ?_
  refine lv_aload_n hx hb dL_face_2 rfl (lv_at hl 0 rfl) ?_
  refine lv_iload_n hx hb dL_face_3 rfl (lv_at hl 1 rfl) ?_
  refine lv_iload_n hx hb dL_face_4 rfl (lv_at hl 2 rfl) ?_
  refine hr_V (b := ob) (As := [.int x1, .int x2]) (rest := [.int (0 : Int32), .ref out]) ⟨hx, hb, hml, hown, hts⟩ (c_X2_face_no l hfl D tys ad L g ob arr made mvs twi tna fa x1 x2 hL_ob hL_arr hg_ob hg_arr htN hab) (cwV 2 hts gL_face_X2_face rfl rfl rfl hd_X2_face ⟨Nat.le_of_ble_eq_true rfl, Nat.le_of_ble_eq_true rfl⟩) (pg_recv hK hP hL_ob hg_ob rfl) (fun U hU hvm => WM hP hK hD hKC0 hTC hS hU hvm) hXN hS (fun _ h => h) rfl hl.1 rfl (lv_room (Nat.le_of_ble_eq_true rfl)) dL_face_5 ⟨Nat.le_of_ble_eq_true rfl, Nat.le_of_ble_eq_true rfl⟩ (fun E ce q9 H locs hxe hP hD hS hce hcv hcl => ?_) (fun hc0 => ?_)
  · rcases hxe with ⟨hc, rfl⟩ | ⟨hc, rfl⟩ | ⟨hc, rfl⟩
    · refine vx_catch (own := RL) (name := "java/util/NoSuchElementException") (E := nsN) hown [] ⟨0, 9, 12, 21⟩ [] (hT.trans rfl) (fun _ h => nomatch h) (by decide) (by decide) (hts (.classLink RL 21 "java/util/NoSuchElementException") (by decide +kernel)) (nw_use (w := .castable "java/util/NoSuchElementException" "java/util/NoSuchElementException") rfl (hXN.2 _ (by decide +kernel))) hce hcv hcl ?_
      refine lv_astore (lv' := [(4, .ref q9), (0, .ref ob), (1, .int x1), (2, .int x2), (3, .ref out)]) hx hb dL_face_12 hl (by decide) rfl (fun ls hl => ?_)
      refine lv_iconst (v := 1) hx hb dL_face_14 (by decide) ?_
      exact W.widen (k := 1) (n := 6) (Nat.le_of_ble_eq_true rfl) (Nat.le_of_ble_eq_true rfl) (W.iret hx hb hr (fun t ht hW => ⟨rfl, ⟨g, WM hP hK hD hKC0 hTC hS ht hW.alike, fun _ => rfl⟩, hS.F ht⟩) (fun q h => hS.2.2 q h) dL_face_15)
    · exact absurd hc (by decide)
    · exact absurd hc (by decide)
  · exact absurd hc0 (by decide)
set_option maxHeartbeats 1000000 in
set_option maxRecDepth 100000 in
theorem c_L_face_no2 (l : Launch) (hfl : l.stackTraces = false) {cyJ : ClassId} {cyN : ClassId} (D : va_G) (tys : List (ClassId × FieldType)) (ad : Nat → Nat) (L : List Nat) (g : Nat → va_E) (ob arr nd out : Nat) (made : Int32) (mvs : Int32) (twi : Int64) (tna : Int32) (fa : Nat → Option Nat) (i : Nat) (nlo : Int64) (nhi : Int64) (nv : Int64) (nst : Int64) (nhs : Int64) (nls : Int64) (ngs : Int64) (x1 : Int32) (x2 : Int32) (fo : Nat → Int64) (hi : i < 2) (hL_ob : ob ∈ L) (hL_arr : arr ∈ L) (hL_nd : nd ∈ L) (hg_ob : g ob = .inr (2, [.ref arr, .int made, .int mvs, .long twi, .int tna])) (hg_arr : g arr = .inl (cyN, 8, .inr (.inr (.inr (.inr fa))))) (hg_nd : g nd = .inr (1, [.ref (ad i), .long nlo, .long nhi, .long nv, .long nst, .long nhs, .long nls, .long ngs])) (htN : tys[2]? = some (cyN, .object RX1)) (hia : vp_in x1 8) (hfa : fa x1.toNatClampNeg = some nd) (hab2 : ¬ vp_in x2 8 ∨ fa x2.toNatClampNeg = none) (hL_out : out ∈ L) (hg_out : g out = .inl (cyJ, 1, .inr (.inl fo))) (htJ : tys[0]? = some (cyJ, .long)) : Met l yL_face wsL_face ({ frames := 8, cells := 2, slots := 12, locals := 128 }) (PW D tys ad L g [.ref ob, .int x1, .int x2, .ref out]) (QE D tys ad L (some (.int (nI (1)))) (fun g1 => ∀ q : Nat, g1 q = g q)) 2 12 (fun q => q ∈ L) := by
  refine va_MetW (cc := cL_face) (maxL := 5) (ret := some .int) (hh := [(0, 9, 12, 21)]) (by decide) rfl ?_
  intro p e s m args below meth c s₁ B hml hv
  obtain ⟨rfl, ⟨hP, hK, hD0, hKC0, hTC⟩, hXN⟩ := hv
  have hD : va_D (fun q => q ∈ L) (va_pl L g) := we_D (fun _ h => h) hD0
  have hKC : KC ad (fun q => q ∈ L) s s.heap := hKC0.narrow (fun _ h => Or.inl h)
  have hS : va_S (fun q => q ∈ L) s.heap s.heap [] := va_S.rf
  have hx := B.exec
  have hb := B.bytes
  have hr := B.returns
  have hts := atoms_spec (ws := wsL_face) B.pre
  have hown : s.vm.findClass RL = some m.cls := findClass_of_methodNamed B.named
  have hlocks := B.notSynchronized
  have hT := vx_table (x := yL_face) B (hts _ List.mem_cons_self)
  have hl := lv_entry ([.ref ob, .int x1, .int x2, .ref out]) (n := 5) (Nat.le_of_ble_eq_true rfl)
  rw [lg_entry_eq]
  generalize (lg_sl ([.ref ob, .int x1, .int x2, .ref out]) ++ List.replicate (5 - (lg_sl ([.ref ob, .int x1, .int x2, .ref out])).length) Slot.unset).toArray = ls at hl ⊢
  have hl : lv_has ls 5 [(0, .ref ob), (1, .int x1), (2, .int x2), (3, .ref out)] := hl
  refine lv_aload_n hx hb dL_face_0 rfl (lv_at hl 3 rfl) ?_
  refine lv_iconst (v := 0) hx hb dL_face_1 (by decide) ?_
  refine lv_aload_n hx hb dL_face_2 rfl (lv_at hl 0 rfl) ?_
  refine lv_iload_n hx hb dL_face_3 rfl (lv_at hl 1 rfl) ?_
  refine lv_iload_n hx hb dL_face_4 rfl (lv_at hl 2 rfl) ?_
  refine hr_V (b := ob) (As := [.int x1, .int x2]) (rest := [.int (0 : Int32), .ref out]) ⟨hx, hb, hml, hown, hts⟩ (c_X2_face_no2 l hfl D tys ad L g ob arr nd made mvs twi tna fa i nlo nhi nv nst nhs nls ngs x1 x2 hi hL_ob hL_arr hL_nd hg_ob hg_arr hg_nd htN hia hfa hab2) (cwV 2 hts gL_face_X2_face rfl rfl rfl hd_X2_face ⟨Nat.le_of_ble_eq_true rfl, Nat.le_of_ble_eq_true rfl⟩) (pg_recv hK hP hL_ob hg_ob rfl) (fun U hU hvm => WM hP hK hD hKC0 hTC hS hU hvm) hXN hS (fun _ h => h) rfl hl.1 rfl (lv_room (Nat.le_of_ble_eq_true rfl)) dL_face_5 ⟨Nat.le_of_ble_eq_true rfl, Nat.le_of_ble_eq_true rfl⟩ (fun E ce q9 H locs hxe hP hD hS hce hcv hcl => ?_) (fun hc0 => ?_)
  · rcases hxe with ⟨hc, rfl⟩ | ⟨hc, rfl⟩ | ⟨hc, rfl⟩
    · refine vx_catch (own := RL) (name := "java/util/NoSuchElementException") (E := nsN) hown [] ⟨0, 9, 12, 21⟩ [] (hT.trans rfl) (fun _ h => nomatch h) (by decide) (by decide) (hts (.classLink RL 21 "java/util/NoSuchElementException") (by decide +kernel)) (nw_use (w := .castable "java/util/NoSuchElementException" "java/util/NoSuchElementException") rfl (hXN.2 _ (by decide +kernel))) hce hcv hcl ?_
      refine lv_astore (lv' := [(4, .ref q9), (0, .ref ob), (1, .int x1), (2, .int x2), (3, .ref out)]) hx hb dL_face_12 hl (by decide) rfl (fun ls hl => ?_)
      refine lv_iconst (v := 1) hx hb dL_face_14 (by decide) ?_
      exact W.widen (k := 2) (n := 12) (Nat.le_of_ble_eq_true rfl) (Nat.le_of_ble_eq_true rfl) (W.iret hx hb hr (fun t ht hW => ⟨rfl, ⟨g, WM hP hK hD hKC0 hTC hS ht hW.alike, fun _ => rfl⟩, hS.F ht⟩) (fun q h => hS.2.2 q h) dL_face_15)
    · exact absurd hc (by decide)
    · exact absurd hc (by decide)
  · exact absurd hc0 (by decide)
theorem nc2_X2_face (made : Int32) (mvs : Int32) (twi : Int64) (tna : Int32) (fa : Nat → Option Nat) (i : Nat) (nlo : Int64) (nhi : Int64) (nv : Int64) (nst : Int64) (nhs : Int64) (nls : Int64) (ngs : Int64) (i2 : Nat) (mlo : Int64) (mhi : Int64) (mv : Int64) (mst : Int64) (mhs : Int64) (mls : Int64) (mgs : Int64) (x1 : Int32) (x2 : Int32) : ¬ (fX2_face made mvs twi tna fa i nlo nhi nv nst nhs nls ngs i2 mlo mhi mv mst mhs mls mgs x1 x2).1 = 2 := by
  unfold fX2_face
  try dsimp only
  repeat' split
  all_goals first | (simp; done) | (have h9 := nf_code i x2; simp only []; omega) | omega
theorem nc3_X2_face (made : Int32) (mvs : Int32) (twi : Int64) (tna : Int32) (fa : Nat → Option Nat) (i : Nat) (nlo : Int64) (nhi : Int64) (nv : Int64) (nst : Int64) (nhs : Int64) (nls : Int64) (ngs : Int64) (i2 : Nat) (mlo : Int64) (mhi : Int64) (mv : Int64) (mst : Int64) (mhs : Int64) (mls : Int64) (mgs : Int64) (x1 : Int32) (x2 : Int32) : ¬ (fX2_face made mvs twi tna fa i nlo nhi nv nst nhs nls ngs i2 mlo mhi mv mst mhs mls mgs x1 x2).1 = 3 := by
  unfold fX2_face
  try dsimp only
  repeat' split
  all_goals first | (simp; done) | (have h9 := nf_code i x2; simp only []; omega) | omega
set_option maxHeartbeats 1000000 in
set_option maxRecDepth 100000 in
theorem c_L_face (l : Launch) (hfl : l.stackTraces = false) {cyJ : ClassId} {cyN : ClassId} (D : va_G) (tys : List (ClassId × FieldType)) (ad : Nat → Nat) (L : List Nat) (g : Nat → va_E) (ob arr nd nd2 out : Nat) (made : Int32) (mvs : Int32) (twi : Int64) (tna : Int32) (fa : Nat → Option Nat) (i : Nat) (nlo : Int64) (nhi : Int64) (nv : Int64) (nst : Int64) (nhs : Int64) (nls : Int64) (ngs : Int64) (i2 : Nat) (mlo : Int64) (mhi : Int64) (mv : Int64) (mst : Int64) (mhs : Int64) (mls : Int64) (mgs : Int64) (x1 : Int32) (x2 : Int32) (fo : Nat → Int64) (hi : i < 2) (hi_i2 : i2 < 2) (hL_ob : ob ∈ L) (hL_arr : arr ∈ L) (hL_nd : nd ∈ L) (hL_nd2 : nd2 ∈ L) (hg_ob : g ob = .inr (2, [.ref arr, .int made, .int mvs, .long twi, .int tna])) (hg_arr : g arr = .inl (cyN, 8, .inr (.inr (.inr (.inr fa))))) (hg_nd : g nd = .inr (1, [.ref (ad i), .long nlo, .long nhi, .long nv, .long nst, .long nhs, .long nls, .long ngs])) (hg_nd2 : g nd2 = .inr (1, [.ref (ad i2), .long mlo, .long mhi, .long mv, .long mst, .long mhs, .long mls, .long mgs])) (ne_ob_nd : ob ≠ nd) (ne_arr_ob : arr ≠ ob) (ne_arr_nd : arr ≠ nd) (ne_nd_ob : nd ≠ ob) (ne_nd2_ob : nd2 ≠ ob) (ne_nd2_nd : nd2 ≠ nd) (htN : tys[2]? = some (cyN, .object RX1)) (hia : vp_in x1 8) (hfa : fa x1.toNatClampNeg = some nd) (hia2 : vp_in x2 8) (hfa2 : fa x2.toNatClampNeg = some nd2) (hL_out : out ∈ L) (hg_out : g out = .inl (cyJ, 1, .inr (.inl fo))) (htJ : tys[0]? = some (cyJ, .long)) (ne_out_nd : out ≠ nd) (ne_nd_out : nd ≠ out) (ne_out_ob : out ≠ ob) (ne_ob_out : ob ≠ out) : Met l yL_face wsL_face ({ frames := 8, cells := 2, slots := 12, locals := 138 }) (PW D tys ad L g [.ref ob, .int x1, .int x2, .ref out]) (QE D tys ad L (some (.int (nI (((fX2_face made mvs twi tna fa i nlo nhi nv nst nhs nls ngs i2 mlo mhi mv mst mhs mls mgs x1 x2).1))))) (fun g1 => (((fX2_face made mvs twi tna fa i nlo nhi nv nst nhs nls ngs i2 mlo mhi mv mst mhs mls mgs x1 x2).1) = 0 → g1 nd = .inr (1, [.ref (ad i), .long nlo, .long nhi, .long ((fX2_face made mvs twi tna fa i nlo nhi nv nst nhs nls ngs i2 mlo mhi mv mst mhs mls mgs x1 x2).2.2.1), .long nst, .long ((fX2_face made mvs twi tna fa i nlo nhi nv nst nhs nls ngs i2 mlo mhi mv mst mhs mls mgs x1 x2).2.2.2.1), .long ((fX2_face made mvs twi tna fa i nlo nhi nv nst nhs nls ngs i2 mlo mhi mv mst mhs mls mgs x1 x2).2.2.2.2.1), .long ((fX2_face made mvs twi tna fa i nlo nhi nv nst nhs nls ngs i2 mlo mhi mv mst mhs mls mgs x1 x2).2.2.2.2.2.1)]) ∧ g1 ob = .inr (2, [.ref arr, .int made, .int ((fX2_face made mvs twi tna fa i nlo nhi nv nst nhs nls ngs i2 mlo mhi mv mst mhs mls mgs x1 x2).2.2.2.2.2.2), .long twi, .int tna]) ∧ g1 out = .inl (cyJ, 1, .inr (.inl (vp_updL fo (0 : Int32).toNatClampNeg ((fX2_face made mvs twi tna fa i nlo nhi nv nst nhs nls ngs i2 mlo mhi mv mst mhs mls mgs x1 x2).2.1)))) ∧ ∀ q : Nat, q ≠ nd → q ≠ ob → q ≠ out → g1 q = g q) ∧ (¬ ((fX2_face made mvs twi tna fa i nlo nhi nv nst nhs nls ngs i2 mlo mhi mv mst mhs mls mgs x1 x2).1) = 0 → ∀ q : Nat, g1 q = g q))) 2 12 (fun q => q ∈ L) := by
  refine va_MetW (cc := cL_face) (maxL := 5) (ret := some .int) (hh := [(0, 9, 12, 21)]) (by decide) rfl ?_
  intro p e s m args below meth c s₁ B hml hv
  obtain ⟨rfl, ⟨hP, hK, hD0, hKC0, hTC⟩, hXN⟩ := hv
  have hD : va_D (fun q => q ∈ L) (va_pl L g) := we_D (fun _ h => h) hD0
  have hKC : KC ad (fun q => q ∈ L) s s.heap := hKC0.narrow (fun _ h => Or.inl h)
  have hS : va_S (fun q => q ∈ L) s.heap s.heap [] := va_S.rf
  have hx := B.exec
  have hb := B.bytes
  have hr := B.returns
  have hts := atoms_spec (ws := wsL_face) B.pre
  have hown : s.vm.findClass RL = some m.cls := findClass_of_methodNamed B.named
  have hlocks := B.notSynchronized
  have hT := vx_table (x := yL_face) B (hts _ List.mem_cons_self)
  have hl := lv_entry ([.ref ob, .int x1, .int x2, .ref out]) (n := 5) (Nat.le_of_ble_eq_true rfl)
  rw [lg_entry_eq]
  generalize (lg_sl ([.ref ob, .int x1, .int x2, .ref out]) ++ List.replicate (5 - (lg_sl ([.ref ob, .int x1, .int x2, .ref out])).length) Slot.unset).toArray = ls at hl ⊢
  have hl : lv_has ls 5 [(0, .ref ob), (1, .int x1), (2, .int x2), (3, .ref out)] := hl
  refine lv_aload_n hx hb dL_face_0 rfl (lv_at hl 3 rfl) ?_
  refine lv_iconst (v := 0) hx hb dL_face_1 (by decide) ?_
  refine lv_aload_n hx hb dL_face_2 rfl (lv_at hl 0 rfl) ?_
  refine lv_iload_n hx hb dL_face_3 rfl (lv_at hl 1 rfl) ?_
  refine lv_iload_n hx hb dL_face_4 rfl (lv_at hl 2 rfl) ?_
  refine hc_V (b := ob) (As := [.int x1, .int x2]) (rest := [.int (0 : Int32), .ref out]) ⟨hx, hb, hml, hown, hts⟩ (c_X2_face l hfl D tys ad L g ob arr nd nd2 made mvs twi tna fa i nlo nhi nv nst nhs nls ngs i2 mlo mhi mv mst mhs mls mgs x1 x2 hi hi_i2 hL_ob hL_arr hL_nd hL_nd2 hg_ob hg_arr hg_nd hg_nd2 ne_ob_nd ne_arr_ob ne_arr_nd ne_nd_ob ne_nd2_ob ne_nd2_nd htN hia hfa hia2 hfa2) (cwV 2 hts gL_face_X2_face rfl rfl rfl hd_X2_face ⟨Nat.le_of_ble_eq_true rfl, Nat.le_of_ble_eq_true rfl⟩) (pg_recv hK hP hL_ob hg_ob rfl) (fun U hU hvm => WM hP hK hD hKC0 hTC hS hU hvm) hXN hS (fun _ h => h) rfl hl.1 rfl (lv_room (Nat.le_of_ble_eq_true rfl)) dL_face_5 ⟨Nat.le_of_ble_eq_true rfl, Nat.le_of_ble_eq_true rfl⟩ (fun E ce q9 H locs hxe hP hD hS hce hcv hcl => ?_) (fun hc0 => ?_)
  · rcases hxe with ⟨hc, rfl⟩ | ⟨hc, rfl⟩ | ⟨hc, rfl⟩
    · refine vx_catch (own := RL) (name := "java/util/NoSuchElementException") (E := nsN) hown [] ⟨0, 9, 12, 21⟩ [] (hT.trans rfl) (fun _ h => nomatch h) (by decide) (by decide) (hts (.classLink RL 21 "java/util/NoSuchElementException") (by decide +kernel)) (nw_use (w := .castable "java/util/NoSuchElementException" "java/util/NoSuchElementException") rfl (hXN.2 _ (by decide +kernel))) hce hcv hcl ?_
      refine lv_astore (lv' := [(4, .ref q9), (0, .ref ob), (1, .int x1), (2, .int x2), (3, .ref out)]) hx hb dL_face_12 hl (by decide) rfl (fun ls hl => ?_)
      refine lv_iconst (v := 1) hx hb dL_face_14 (by decide) ?_
      exact W.widen (k := 2) (n := 12) (Nat.le_of_ble_eq_true rfl) (Nat.le_of_ble_eq_true rfl) (W.iret hx hb hr (fun t ht hW => ⟨by rw [hc]; rfl, ⟨g, WM hP hK hD hKC0 hTC hS ht hW.alike, ⟨fun z => absurd z (by rw [hc]; decide), fun _ _ => rfl⟩⟩, hS.F ht⟩) (fun q h => hS.2.2 q h) dL_face_15)
    · exact absurd hc (nc2_X2_face _ _ _ _ _ _ _ _ _ _ _ _ _ _ _ _ _ _ _ _ _ _ _)
    · exact absurd hc (nc3_X2_face _ _ _ _ _ _ _ _ _ _ _ _ _ _ _ _ _ _ _ _ _ _ _)
  · intro g1 H locs hp9 hP hD hS
    refine W.eq (g2 := F0 m 8 ls [.long ((fX2_face made mvs twi tna fa i nlo nhi nv nst nhs nls ngs i2 mlo mhi mv mst mhs mls mgs x1 x2).2.1), .int (0 : Int32), .ref out]) rfl ?_
    obtain ⟨hn9_nd, hn9_ob, hr9⟩ := hp9
    have hg_nd : g1 nd = .inr (1, [.ref (ad i), .long nlo, .long nhi, .long ((fX2_face made mvs twi tna fa i nlo nhi nv nst nhs nls ngs i2 mlo mhi mv mst mhs mls mgs x1 x2).2.2.1), .long nst, .long ((fX2_face made mvs twi tna fa i nlo nhi nv nst nhs nls ngs i2 mlo mhi mv mst mhs mls mgs x1 x2).2.2.2.1), .long ((fX2_face made mvs twi tna fa i nlo nhi nv nst nhs nls ngs i2 mlo mhi mv mst mhs mls mgs x1 x2).2.2.2.2.1), .long ((fX2_face made mvs twi tna fa i nlo nhi nv nst nhs nls ngs i2 mlo mhi mv mst mhs mls mgs x1 x2).2.2.2.2.2.1)]) := hn9_nd
    have hg_ob : g1 ob = .inr (2, [.ref arr, .int made, .int ((fX2_face made mvs twi tna fa i nlo nhi nv nst nhs nls ngs i2 mlo mhi mv mst mhs mls mgs x1 x2).2.2.2.2.2.2), .long twi, .int tna]) := hn9_ob
    have hg_out : g1 out = .inl (cyJ, 1, .inr (.inl fo)) := (hr9 out ne_out_nd ne_out_ob).trans hg_out
    refine pg_last hx hb hK hP hD hS 0 hL_out hg_out htJ (by unfold vp_in; decide) dL_face_8 (fun H locs hP hD hS => ?_)
    obtain ⟨g2, eg2⟩ : ∃ z : Nat → va_E, z = va_up g1 out (.inl (cyJ, 1, .inr (.inl (vp_updL fo (0 : Int32).toNatClampNeg ((fX2_face made mvs twi tna fa i nlo nhi nv nst nhs nls ngs i2 mlo mhi mv mst mhs mls mgs x1 x2).2.1))))) := ⟨_, rfl⟩
    have hP : va_P D vwCl (va_pl L g2) H := by rw [eg2]; exact hP
    have hD : va_D (fun q => q ∈ L) (va_pl L g2) := by rw [eg2]; exact hD
    have hg_out : g2 out = .inl (cyJ, 1, .inr (.inl (vp_updL fo (0 : Int32).toNatClampNeg ((fX2_face made mvs twi tna fa i nlo nhi nv nst nhs nls ngs i2 mlo mhi mv mst mhs mls mgs x1 x2).2.1)))) := by rw [eg2]; exact va_up_self _ _ _
    have hg_nd : g2 nd = .inr (1, [.ref (ad i), .long nlo, .long nhi, .long ((fX2_face made mvs twi tna fa i nlo nhi nv nst nhs nls ngs i2 mlo mhi mv mst mhs mls mgs x1 x2).2.2.1), .long nst, .long ((fX2_face made mvs twi tna fa i nlo nhi nv nst nhs nls ngs i2 mlo mhi mv mst mhs mls mgs x1 x2).2.2.2.1), .long ((fX2_face made mvs twi tna fa i nlo nhi nv nst nhs nls ngs i2 mlo mhi mv mst mhs mls mgs x1 x2).2.2.2.2.1), .long ((fX2_face made mvs twi tna fa i nlo nhi nv nst nhs nls ngs i2 mlo mhi mv mst mhs mls mgs x1 x2).2.2.2.2.2.1)]) := (congrFun eg2 nd).trans ((va_up_ne _ _ ne_nd_out).trans hg_nd)
    have hg_ob : g2 ob = .inr (2, [.ref arr, .int made, .int ((fX2_face made mvs twi tna fa i nlo nhi nv nst nhs nls ngs i2 mlo mhi mv mst mhs mls mgs x1 x2).2.2.2.2.2.2), .long twi, .int tna]) := (congrFun eg2 ob).trans ((va_up_ne _ _ ne_ob_out).trans hg_ob)
    have hr8 : ∀ q : Nat, q ≠ nd → q ≠ ob → q ≠ out → g2 q = g q := fun q h_nd h_ob h_out => (congrFun eg2 q).trans ((va_up_ne _ _ h_out).trans (hr9 q h_nd h_ob))
    refine lv_goto (tgt := 16) hx hb dL_face_9 (by decide) ?_
    refine lv_iconst (v := 0) hx hb dL_face_16 (by decide) ?_
    exact W.widen (k := 2) (n := 12) (Nat.le_of_ble_eq_true rfl) (Nat.le_of_ble_eq_true rfl) (W.iret hx hb hr (fun t ht hW => ⟨by rw [hc0]; rfl, ⟨g2, WM hP hK hD hKC0 hTC hS ht hW.alike, ⟨fun _ => ⟨hg_nd, hg_ob, hg_out, hr8⟩, fun z => absurd hc0 z⟩⟩, hS.F ht⟩) (fun q h => hS.2.2 q h) dL_face_17)
theorem nc2_X2_face_s (made : Int32) (mvs : Int32) (twi : Int64) (tna : Int32) (fa : Nat → Option Nat) (i : Nat) (nlo : Int64) (nhi : Int64) (nv : Int64) (nst : Int64) (nhs : Int64) (nls : Int64) (ngs : Int64) (x1 : Int32) (x2 : Int32) : ¬ (fX2_face_s made mvs twi tna fa i nlo nhi nv nst nhs nls ngs x1 x2).1 = 2 := by
  unfold fX2_face_s
  try dsimp only
  repeat' split
  all_goals first | (simp; done) | (have h9 := nf_code i x2; simp only []; omega) | omega
theorem nc3_X2_face_s (made : Int32) (mvs : Int32) (twi : Int64) (tna : Int32) (fa : Nat → Option Nat) (i : Nat) (nlo : Int64) (nhi : Int64) (nv : Int64) (nst : Int64) (nhs : Int64) (nls : Int64) (ngs : Int64) (x1 : Int32) (x2 : Int32) : ¬ (fX2_face_s made mvs twi tna fa i nlo nhi nv nst nhs nls ngs x1 x2).1 = 3 := by
  unfold fX2_face_s
  try dsimp only
  repeat' split
  all_goals first | (simp; done) | (have h9 := nf_code i x2; simp only []; omega) | omega
set_option maxHeartbeats 1000000 in
set_option maxRecDepth 100000 in
theorem c_L_face_s (l : Launch) (hfl : l.stackTraces = false) {cyJ : ClassId} {cyN : ClassId} (D : va_G) (tys : List (ClassId × FieldType)) (ad : Nat → Nat) (L : List Nat) (g : Nat → va_E) (ob arr nd out : Nat) (made : Int32) (mvs : Int32) (twi : Int64) (tna : Int32) (fa : Nat → Option Nat) (i : Nat) (nlo : Int64) (nhi : Int64) (nv : Int64) (nst : Int64) (nhs : Int64) (nls : Int64) (ngs : Int64) (x1 : Int32) (x2 : Int32) (fo : Nat → Int64) (hi : i < 2) (hL_ob : ob ∈ L) (hL_arr : arr ∈ L) (hL_nd : nd ∈ L) (hg_ob : g ob = .inr (2, [.ref arr, .int made, .int mvs, .long twi, .int tna])) (hg_arr : g arr = .inl (cyN, 8, .inr (.inr (.inr (.inr fa))))) (hg_nd : g nd = .inr (1, [.ref (ad i), .long nlo, .long nhi, .long nv, .long nst, .long nhs, .long nls, .long ngs])) (ne_ob_nd : ob ≠ nd) (ne_arr_ob : arr ≠ ob) (ne_arr_nd : arr ≠ nd) (ne_nd_ob : nd ≠ ob) (htN : tys[2]? = some (cyN, .object RX1)) (hia : vp_in x1 8) (hfa : fa x1.toNatClampNeg = some nd) (hia2 : vp_in x2 8) (hfa2 : fa x2.toNatClampNeg = some nd) (hL_out : out ∈ L) (hg_out : g out = .inl (cyJ, 1, .inr (.inl fo))) (htJ : tys[0]? = some (cyJ, .long)) (ne_out_nd : out ≠ nd) (ne_nd_out : nd ≠ out) (ne_out_ob : out ≠ ob) (ne_ob_out : ob ≠ out) : Met l yL_face wsL_face ({ frames := 8, cells := 2, slots := 12, locals := 138 }) (PW D tys ad L g [.ref ob, .int x1, .int x2, .ref out]) (QE D tys ad L (some (.int (nI (((fX2_face_s made mvs twi tna fa i nlo nhi nv nst nhs nls ngs x1 x2).1))))) (fun g1 => (((fX2_face_s made mvs twi tna fa i nlo nhi nv nst nhs nls ngs x1 x2).1) = 0 → g1 nd = .inr (1, [.ref (ad i), .long nlo, .long nhi, .long ((fX2_face_s made mvs twi tna fa i nlo nhi nv nst nhs nls ngs x1 x2).2.2.1), .long nst, .long ((fX2_face_s made mvs twi tna fa i nlo nhi nv nst nhs nls ngs x1 x2).2.2.2.1), .long ((fX2_face_s made mvs twi tna fa i nlo nhi nv nst nhs nls ngs x1 x2).2.2.2.2.1), .long ((fX2_face_s made mvs twi tna fa i nlo nhi nv nst nhs nls ngs x1 x2).2.2.2.2.2.1)]) ∧ g1 ob = .inr (2, [.ref arr, .int made, .int ((fX2_face_s made mvs twi tna fa i nlo nhi nv nst nhs nls ngs x1 x2).2.2.2.2.2.2), .long twi, .int tna]) ∧ g1 out = .inl (cyJ, 1, .inr (.inl (vp_updL fo (0 : Int32).toNatClampNeg ((fX2_face_s made mvs twi tna fa i nlo nhi nv nst nhs nls ngs x1 x2).2.1)))) ∧ ∀ q : Nat, q ≠ nd → q ≠ ob → q ≠ out → g1 q = g q) ∧ (¬ ((fX2_face_s made mvs twi tna fa i nlo nhi nv nst nhs nls ngs x1 x2).1) = 0 → ∀ q : Nat, g1 q = g q))) 2 12 (fun q => q ∈ L) := by
  refine va_MetW (cc := cL_face) (maxL := 5) (ret := some .int) (hh := [(0, 9, 12, 21)]) (by decide) rfl ?_
  intro p e s m args below meth c s₁ B hml hv
  obtain ⟨rfl, ⟨hP, hK, hD0, hKC0, hTC⟩, hXN⟩ := hv
  have hD : va_D (fun q => q ∈ L) (va_pl L g) := we_D (fun _ h => h) hD0
  have hKC : KC ad (fun q => q ∈ L) s s.heap := hKC0.narrow (fun _ h => Or.inl h)
  have hS : va_S (fun q => q ∈ L) s.heap s.heap [] := va_S.rf
  have hx := B.exec
  have hb := B.bytes
  have hr := B.returns
  have hts := atoms_spec (ws := wsL_face) B.pre
  have hown : s.vm.findClass RL = some m.cls := findClass_of_methodNamed B.named
  have hlocks := B.notSynchronized
  have hT := vx_table (x := yL_face) B (hts _ List.mem_cons_self)
  have hl := lv_entry ([.ref ob, .int x1, .int x2, .ref out]) (n := 5) (Nat.le_of_ble_eq_true rfl)
  rw [lg_entry_eq]
  generalize (lg_sl ([.ref ob, .int x1, .int x2, .ref out]) ++ List.replicate (5 - (lg_sl ([.ref ob, .int x1, .int x2, .ref out])).length) Slot.unset).toArray = ls at hl ⊢
  have hl : lv_has ls 5 [(0, .ref ob), (1, .int x1), (2, .int x2), (3, .ref out)] := hl
  refine lv_aload_n hx hb dL_face_0 rfl (lv_at hl 3 rfl) ?_
  refine lv_iconst (v := 0) hx hb dL_face_1 (by decide) ?_
  refine lv_aload_n hx hb dL_face_2 rfl (lv_at hl 0 rfl) ?_
  refine lv_iload_n hx hb dL_face_3 rfl (lv_at hl 1 rfl) ?_
  refine lv_iload_n hx hb dL_face_4 rfl (lv_at hl 2 rfl) ?_
  refine hc_V (b := ob) (As := [.int x1, .int x2]) (rest := [.int (0 : Int32), .ref out]) ⟨hx, hb, hml, hown, hts⟩ (c_X2_face_s l hfl D tys ad L g ob arr nd made mvs twi tna fa i nlo nhi nv nst nhs nls ngs x1 x2 hi hL_ob hL_arr hL_nd hg_ob hg_arr hg_nd ne_ob_nd ne_arr_ob ne_arr_nd ne_nd_ob htN hia hfa hia2 hfa2) (cwV 2 hts gL_face_X2_face rfl rfl rfl hd_X2_face ⟨Nat.le_of_ble_eq_true rfl, Nat.le_of_ble_eq_true rfl⟩) (pg_recv hK hP hL_ob hg_ob rfl) (fun U hU hvm => WM hP hK hD hKC0 hTC hS hU hvm) hXN hS (fun _ h => h) rfl hl.1 rfl (lv_room (Nat.le_of_ble_eq_true rfl)) dL_face_5 ⟨Nat.le_of_ble_eq_true rfl, Nat.le_of_ble_eq_true rfl⟩ (fun E ce q9 H locs hxe hP hD hS hce hcv hcl => ?_) (fun hc0 => ?_)
  · rcases hxe with ⟨hc, rfl⟩ | ⟨hc, rfl⟩ | ⟨hc, rfl⟩
    · refine vx_catch (own := RL) (name := "java/util/NoSuchElementException") (E := nsN) hown [] ⟨0, 9, 12, 21⟩ [] (hT.trans rfl) (fun _ h => nomatch h) (by decide) (by decide) (hts (.classLink RL 21 "java/util/NoSuchElementException") (by decide +kernel)) (nw_use (w := .castable "java/util/NoSuchElementException" "java/util/NoSuchElementException") rfl (hXN.2 _ (by decide +kernel))) hce hcv hcl ?_
      refine lv_astore (lv' := [(4, .ref q9), (0, .ref ob), (1, .int x1), (2, .int x2), (3, .ref out)]) hx hb dL_face_12 hl (by decide) rfl (fun ls hl => ?_)
      refine lv_iconst (v := 1) hx hb dL_face_14 (by decide) ?_
      exact W.widen (k := 2) (n := 12) (Nat.le_of_ble_eq_true rfl) (Nat.le_of_ble_eq_true rfl) (W.iret hx hb hr (fun t ht hW => ⟨by rw [hc]; rfl, ⟨g, WM hP hK hD hKC0 hTC hS ht hW.alike, ⟨fun z => absurd z (by rw [hc]; decide), fun _ _ => rfl⟩⟩, hS.F ht⟩) (fun q h => hS.2.2 q h) dL_face_15)
    · exact absurd hc (nc2_X2_face_s _ _ _ _ _ _ _ _ _ _ _ _ _ _ _)
    · exact absurd hc (nc3_X2_face_s _ _ _ _ _ _ _ _ _ _ _ _ _ _ _)
  · intro g1 H locs hp9 hP hD hS
    refine W.eq (g2 := F0 m 8 ls [.long ((fX2_face_s made mvs twi tna fa i nlo nhi nv nst nhs nls ngs x1 x2).2.1), .int (0 : Int32), .ref out]) rfl ?_
    obtain ⟨hn9_nd, hn9_ob, hr9⟩ := hp9
    have hg_nd : g1 nd = .inr (1, [.ref (ad i), .long nlo, .long nhi, .long ((fX2_face_s made mvs twi tna fa i nlo nhi nv nst nhs nls ngs x1 x2).2.2.1), .long nst, .long ((fX2_face_s made mvs twi tna fa i nlo nhi nv nst nhs nls ngs x1 x2).2.2.2.1), .long ((fX2_face_s made mvs twi tna fa i nlo nhi nv nst nhs nls ngs x1 x2).2.2.2.2.1), .long ((fX2_face_s made mvs twi tna fa i nlo nhi nv nst nhs nls ngs x1 x2).2.2.2.2.2.1)]) := hn9_nd
    have hg_ob : g1 ob = .inr (2, [.ref arr, .int made, .int ((fX2_face_s made mvs twi tna fa i nlo nhi nv nst nhs nls ngs x1 x2).2.2.2.2.2.2), .long twi, .int tna]) := hn9_ob
    have hg_out : g1 out = .inl (cyJ, 1, .inr (.inl fo)) := (hr9 out ne_out_nd ne_out_ob).trans hg_out
    refine pg_last hx hb hK hP hD hS 0 hL_out hg_out htJ (by unfold vp_in; decide) dL_face_8 (fun H locs hP hD hS => ?_)
    obtain ⟨g2, eg2⟩ : ∃ z : Nat → va_E, z = va_up g1 out (.inl (cyJ, 1, .inr (.inl (vp_updL fo (0 : Int32).toNatClampNeg ((fX2_face_s made mvs twi tna fa i nlo nhi nv nst nhs nls ngs x1 x2).2.1))))) := ⟨_, rfl⟩
    have hP : va_P D vwCl (va_pl L g2) H := by rw [eg2]; exact hP
    have hD : va_D (fun q => q ∈ L) (va_pl L g2) := by rw [eg2]; exact hD
    have hg_out : g2 out = .inl (cyJ, 1, .inr (.inl (vp_updL fo (0 : Int32).toNatClampNeg ((fX2_face_s made mvs twi tna fa i nlo nhi nv nst nhs nls ngs x1 x2).2.1)))) := by rw [eg2]; exact va_up_self _ _ _
    have hg_nd : g2 nd = .inr (1, [.ref (ad i), .long nlo, .long nhi, .long ((fX2_face_s made mvs twi tna fa i nlo nhi nv nst nhs nls ngs x1 x2).2.2.1), .long nst, .long ((fX2_face_s made mvs twi tna fa i nlo nhi nv nst nhs nls ngs x1 x2).2.2.2.1), .long ((fX2_face_s made mvs twi tna fa i nlo nhi nv nst nhs nls ngs x1 x2).2.2.2.2.1), .long ((fX2_face_s made mvs twi tna fa i nlo nhi nv nst nhs nls ngs x1 x2).2.2.2.2.2.1)]) := (congrFun eg2 nd).trans ((va_up_ne _ _ ne_nd_out).trans hg_nd)
    have hg_ob : g2 ob = .inr (2, [.ref arr, .int made, .int ((fX2_face_s made mvs twi tna fa i nlo nhi nv nst nhs nls ngs x1 x2).2.2.2.2.2.2), .long twi, .int tna]) := (congrFun eg2 ob).trans ((va_up_ne _ _ ne_ob_out).trans hg_ob)
    have hr8 : ∀ q : Nat, q ≠ nd → q ≠ ob → q ≠ out → g2 q = g q := fun q h_nd h_ob h_out => (congrFun eg2 q).trans ((va_up_ne _ _ h_out).trans (hr9 q h_nd h_ob))
    refine lv_goto (tgt := 16) hx hb dL_face_9 (by decide) ?_
    refine lv_iconst (v := 0) hx hb dL_face_16 (by decide) ?_
    exact W.widen (k := 2) (n := 12) (Nat.le_of_ble_eq_true rfl) (Nat.le_of_ble_eq_true rfl) (W.iret hx hb hr (fun t ht hW => ⟨by rw [hc0]; rfl, ⟨g2, WM hP hK hD hKC0 hTC hS ht hW.alike, ⟨fun _ => ⟨hg_nd, hg_ob, hg_out, hr8⟩, fun z => absurd hc0 z⟩⟩, hS.F ht⟩) (fun q h => hS.2.2 q h) dL_face_17)
theorem hd_L_between : yL_between.cls ≠ "java/lang/invoke/MethodHandle" ∧ yL_between.cls ≠ "java/lang/invoke/VarHandle" ∧ (parseMethodDescriptor yL_between.desc).map (fun d => d.parameters.length) = some 5 := by decide +kernel
set_option maxHeartbeats 1000000 in
set_option maxRecDepth 100000 in
theorem c_L_between_no (l : Launch) (hfl : l.stackTraces = false) {cyJ : ClassId} {cyN : ClassId} (D : va_G) (tys : List (ClassId × FieldType)) (ad : Nat → Nat) (L : List Nat) (g : Nat → va_E) (ob arr out : Nat) (made : Int32) (mvs : Int32) (twi : Int64) (tna : Int32) (fa : Nat → Option Nat) (x1 : Int32) (x2 : Int32) (x3 : Int32) (fo : Nat → Int64) (hL_ob : ob ∈ L) (hL_arr : arr ∈ L) (hg_ob : g ob = .inr (2, [.ref arr, .int made, .int mvs, .long twi, .int tna])) (hg_arr : g arr = .inl (cyN, 8, .inr (.inr (.inr (.inr fa))))) (htN : tys[2]? = some (cyN, .object RX1)) (hab : ¬ vp_in x1 8 ∨ fa x1.toNatClampNeg = none) (hL_out : out ∈ L) (hg_out : g out = .inl (cyJ, 1, .inr (.inl fo))) (htJ : tys[0]? = some (cyJ, .long)) : Met l yL_between wsL_between ({ frames := 8, cells := 1, slots := 6, locals := 130 }) (PW D tys ad L g [.ref ob, .int x1, .int x2, .int x3, .ref out]) (QE D tys ad L (some (.int (nI (1)))) (fun g1 => ∀ q : Nat, g1 q = g q)) 1 6 (fun q => q ∈ L) := by
  refine va_MetW (cc := cL_between) (maxL := 6) (ret := some .int) (hh := [(0, 11, 14, 21), (0, 11, 18, 13)]) (by decide) rfl ?_
  intro p e s m args below meth c s₁ B hml hv
  obtain ⟨rfl, ⟨hP, hK, hD0, hKC0, hTC⟩, hXN⟩ := hv
  have hD : va_D (fun q => q ∈ L) (va_pl L g) := we_D (fun _ h => h) hD0
  have hKC : KC ad (fun q => q ∈ L) s s.heap := hKC0.narrow (fun _ h => Or.inl h)
  have hS : va_S (fun q => q ∈ L) s.heap s.heap [] := va_S.rf
  have hx := B.exec
  have hb := B.bytes
  have hr := B.returns
  have hts := atoms_spec (ws := wsL_between) B.pre
  have hown : s.vm.findClass RL = some m.cls := findClass_of_methodNamed B.named
  have hlocks := B.notSynchronized
  have hT := vx_table (x := yL_between) B (hts _ List.mem_cons_self)
  have hl := lv_entry ([.ref ob, .int x1, .int x2, .int x3, .ref out]) (n := 6) (Nat.le_of_ble_eq_true rfl)
  rw [lg_entry_eq]
  generalize (lg_sl ([.ref ob, .int x1, .int x2, .int x3, .ref out]) ++ List.replicate (6 - (lg_sl ([.ref ob, .int x1, .int x2, .int x3, .ref out])).length) Slot.unset).toArray = ls at hl ⊢
  have hl : lv_has ls 6 [(0, .ref ob), (1, .int x1), (2, .int x2), (3, .int x3), (4, .ref out)] := hl
  refine lv_aload hx hb dL_between_0 (lv_at hl 4 rfl) ?_
  refine lv_iconst (v := 0) hx hb dL_between_2 (by decide) ?_
  refine lv_aload_n hx hb dL_between_3 rfl (lv_at hl 0 rfl) ?_
  refine lv_iload_n hx hb dL_between_4 rfl (lv_at hl 1 rfl) ?_
  refine lv_iload_n hx hb dL_between_5 rfl (lv_at hl 2 rfl) ?_
  refine lv_iload_n hx hb dL_between_6 rfl (lv_at hl 3 rfl) ?_
  refine hr_V (b := ob) (As := [.int x1, .int x2, .int x3]) (rest := [.int (0 : Int32), .ref out]) ⟨hx, hb, hml, hown, hts⟩ (c_X2_between_no l hfl D tys ad L g ob arr made mvs twi tna fa x1 x2 x3 hL_ob hL_arr hg_ob hg_arr htN hab) (cwV 3 hts gL_between_X2_between rfl rfl rfl hd_X2_between ⟨Nat.le_of_ble_eq_true rfl, Nat.le_of_ble_eq_true rfl⟩) (pg_recv hK hP hL_ob hg_ob rfl) (fun U hU hvm => WM hP hK hD hKC0 hTC hS hU hvm) hXN hS (fun _ h => h) rfl hl.1 rfl (lv_room (Nat.le_of_ble_eq_true rfl)) dL_between_7 ⟨Nat.le_of_ble_eq_true rfl, Nat.le_of_ble_eq_true rfl⟩ (fun E ce q9 H locs hxe hP hD hS hce hcv hcl => ?_) (fun hc0 => ?_)
  · rcases hxe with ⟨hc, rfl⟩ | ⟨hc, rfl⟩ | ⟨hc, rfl⟩
    · refine vx_catch (own := RL) (name := "java/util/NoSuchElementException") (E := nsN) hown [] ⟨0, 11, 14, 21⟩ [⟨0, 11, 18, 13⟩] (hT.trans rfl) (fun _ h => nomatch h) (by decide) (by decide) (hts (.classLink RL 21 "java/util/NoSuchElementException") (by decide +kernel)) (nw_use (w := .castable "java/util/NoSuchElementException" "java/util/NoSuchElementException") rfl (hXN.2 _ (by decide +kernel))) hce hcv hcl ?_
      refine lv_astore (lv' := [(5, .ref q9), (0, .ref ob), (1, .int x1), (2, .int x2), (3, .int x3), (4, .ref out)]) hx hb dL_between_14 hl (by decide) rfl (fun ls hl => ?_)
      refine lv_iconst (v := 1) hx hb dL_between_16 (by decide) ?_
      exact W.widen (k := 1) (n := 6) (Nat.le_of_ble_eq_true rfl) (Nat.le_of_ble_eq_true rfl) (W.iret hx hb hr (fun t ht hW => ⟨rfl, ⟨g, WM hP hK hD hKC0 hTC hS ht hW.alike, fun _ => rfl⟩, hS.F ht⟩) (fun q h => hS.2.2 q h) dL_between_17)
    · exact absurd hc (by decide)
    · exact absurd hc (by decide)
  · exact absurd hc0 (by decide)
set_option maxHeartbeats 1000000 in
set_option maxRecDepth 100000 in
theorem c_L_between_no2 (l : Launch) (hfl : l.stackTraces = false) {cyJ : ClassId} {cyN : ClassId} (D : va_G) (tys : List (ClassId × FieldType)) (ad : Nat → Nat) (L : List Nat) (g : Nat → va_E) (ob arr nd out : Nat) (made : Int32) (mvs : Int32) (twi : Int64) (tna : Int32) (fa : Nat → Option Nat) (i : Nat) (nlo : Int64) (nhi : Int64) (nv : Int64) (nst : Int64) (nhs : Int64) (nls : Int64) (ngs : Int64) (x1 : Int32) (x2 : Int32) (x3 : Int32) (fo : Nat → Int64) (hi : i < 2) (hL_ob : ob ∈ L) (hL_arr : arr ∈ L) (hL_nd : nd ∈ L) (hg_ob : g ob = .inr (2, [.ref arr, .int made, .int mvs, .long twi, .int tna])) (hg_arr : g arr = .inl (cyN, 8, .inr (.inr (.inr (.inr fa))))) (hg_nd : g nd = .inr (1, [.ref (ad i), .long nlo, .long nhi, .long nv, .long nst, .long nhs, .long nls, .long ngs])) (htN : tys[2]? = some (cyN, .object RX1)) (hia : vp_in x1 8) (hfa : fa x1.toNatClampNeg = some nd) (hab2 : ¬ vp_in x2 8 ∨ fa x2.toNatClampNeg = none) (hL_out : out ∈ L) (hg_out : g out = .inl (cyJ, 1, .inr (.inl fo))) (htJ : tys[0]? = some (cyJ, .long)) : Met l yL_between wsL_between ({ frames := 8, cells := 2, slots := 12, locals := 130 }) (PW D tys ad L g [.ref ob, .int x1, .int x2, .int x3, .ref out]) (QE D tys ad L (some (.int (nI (1)))) (fun g1 => ∀ q : Nat, g1 q = g q)) 2 12 (fun q => q ∈ L) := by
  refine va_MetW (cc := cL_between) (maxL := 6) (ret := some .int) (hh := [(0, 11, 14, 21), (0, 11, 18, 13)]) (by decide) rfl ?_
  intro p e s m args below meth c s₁ B hml hv
  obtain ⟨rfl, ⟨hP, hK, hD0, hKC0, hTC⟩, hXN⟩ := hv
  have hD : va_D (fun q => q ∈ L) (va_pl L g) := we_D (fun _ h => h) hD0
  have hKC : KC ad (fun q => q ∈ L) s s.heap := hKC0.narrow (fun _ h => Or.inl h)
  have hS : va_S (fun q => q ∈ L) s.heap s.heap [] := va_S.rf
  have hx := B.exec
  have hb := B.bytes
  have hr := B.returns
  have hts := atoms_spec (ws := wsL_between) B.pre
  have hown : s.vm.findClass RL = some m.cls := findClass_of_methodNamed B.named
  have hlocks := B.notSynchronized
  have hT := vx_table (x := yL_between) B (hts _ List.mem_cons_self)
  have hl := lv_entry ([.ref ob, .int x1, .int x2, .int x3, .ref out]) (n := 6) (Nat.le_of_ble_eq_true rfl)
  rw [lg_entry_eq]
  generalize (lg_sl ([.ref ob, .int x1, .int x2, .int x3, .ref out]) ++ List.replicate (6 - (lg_sl ([.ref ob, .int x1, .int x2, .int x3, .ref out])).length) Slot.unset).toArray = ls at hl ⊢
  have hl : lv_has ls 6 [(0, .ref ob), (1, .int x1), (2, .int x2), (3, .int x3), (4, .ref out)] := hl
  refine lv_aload hx hb dL_between_0 (lv_at hl 4 rfl) ?_
  refine lv_iconst (v := 0) hx hb dL_between_2 (by decide) ?_
  refine lv_aload_n hx hb dL_between_3 rfl (lv_at hl 0 rfl) ?_
  refine lv_iload_n hx hb dL_between_4 rfl (lv_at hl 1 rfl) ?_
  refine lv_iload_n hx hb dL_between_5 rfl (lv_at hl 2 rfl) ?_
  refine lv_iload_n hx hb dL_between_6 rfl (lv_at hl 3 rfl) ?_
  refine hr_V (b := ob) (As := [.int x1, .int x2, .int x3]) (rest := [.int (0 : Int32), .ref out]) ⟨hx, hb, hml, hown, hts⟩ (c_X2_between_no2 l hfl D tys ad L g ob arr nd made mvs twi tna fa i nlo nhi nv nst nhs nls ngs x1 x2 x3 hi hL_ob hL_arr hL_nd hg_ob hg_arr hg_nd htN hia hfa hab2) (cwV 3 hts gL_between_X2_between rfl rfl rfl hd_X2_between ⟨Nat.le_of_ble_eq_true rfl, Nat.le_of_ble_eq_true rfl⟩) (pg_recv hK hP hL_ob hg_ob rfl) (fun U hU hvm => WM hP hK hD hKC0 hTC hS hU hvm) hXN hS (fun _ h => h) rfl hl.1 rfl (lv_room (Nat.le_of_ble_eq_true rfl)) dL_between_7 ⟨Nat.le_of_ble_eq_true rfl, Nat.le_of_ble_eq_true rfl⟩ (fun E ce q9 H locs hxe hP hD hS hce hcv hcl => ?_) (fun hc0 => ?_)
  · rcases hxe with ⟨hc, rfl⟩ | ⟨hc, rfl⟩ | ⟨hc, rfl⟩
    · refine vx_catch (own := RL) (name := "java/util/NoSuchElementException") (E := nsN) hown [] ⟨0, 11, 14, 21⟩ [⟨0, 11, 18, 13⟩] (hT.trans rfl) (fun _ h => nomatch h) (by decide) (by decide) (hts (.classLink RL 21 "java/util/NoSuchElementException") (by decide +kernel)) (nw_use (w := .castable "java/util/NoSuchElementException" "java/util/NoSuchElementException") rfl (hXN.2 _ (by decide +kernel))) hce hcv hcl ?_
      refine lv_astore (lv' := [(5, .ref q9), (0, .ref ob), (1, .int x1), (2, .int x2), (3, .int x3), (4, .ref out)]) hx hb dL_between_14 hl (by decide) rfl (fun ls hl => ?_)
      refine lv_iconst (v := 1) hx hb dL_between_16 (by decide) ?_
      exact W.widen (k := 2) (n := 12) (Nat.le_of_ble_eq_true rfl) (Nat.le_of_ble_eq_true rfl) (W.iret hx hb hr (fun t ht hW => ⟨rfl, ⟨g, WM hP hK hD hKC0 hTC hS ht hW.alike, fun _ => rfl⟩, hS.F ht⟩) (fun q h => hS.2.2 q h) dL_between_17)
    · exact absurd hc (by decide)
    · exact absurd hc (by decide)
  · exact absurd hc0 (by decide)
theorem nc3_X2_between (made : Int32) (mvs : Int32) (twi : Int64) (tna : Int32) (fa : Nat → Option Nat) (i : Nat) (nlo : Int64) (nhi : Int64) (nv : Int64) (nst : Int64) (nhs : Int64) (nls : Int64) (ngs : Int64) (i2 : Nat) (mlo : Int64) (mhi : Int64) (mv : Int64) (mst : Int64) (mhs : Int64) (mls : Int64) (mgs : Int64) (x1 : Int32) (x2 : Int32) (x3 : Int32) : ¬ (fX2_between made mvs twi tna fa i nlo nhi nv nst nhs nls ngs i2 mlo mhi mv mst mhs mls mgs x1 x2 x3).1 = 3 := by
  unfold fX2_between
  try dsimp only
  repeat' split
  all_goals first | (simp; done) | (have h9 := nf_code i x2; simp only []; omega) | omega
set_option maxHeartbeats 1000000 in
set_option maxRecDepth 100000 in
theorem c_L_between (l : Launch) (hfl : l.stackTraces = false) {cyJ : ClassId} {cyN : ClassId} (D : va_G) (tys : List (ClassId × FieldType)) (ad : Nat → Nat) (L : List Nat) (g : Nat → va_E) (ob arr nd nd2 out : Nat) (made : Int32) (mvs : Int32) (twi : Int64) (tna : Int32) (fa : Nat → Option Nat) (i : Nat) (nlo : Int64) (nhi : Int64) (nv : Int64) (nst : Int64) (nhs : Int64) (nls : Int64) (ngs : Int64) (i2 : Nat) (mlo : Int64) (mhi : Int64) (mv : Int64) (mst : Int64) (mhs : Int64) (mls : Int64) (mgs : Int64) (x1 : Int32) (x2 : Int32) (x3 : Int32) (fo : Nat → Int64) (hi : i < 2) (hi_i2 : i2 < 2) (hL_ob : ob ∈ L) (hL_arr : arr ∈ L) (hL_nd : nd ∈ L) (hL_nd2 : nd2 ∈ L) (hg_ob : g ob = .inr (2, [.ref arr, .int made, .int mvs, .long twi, .int tna])) (hg_arr : g arr = .inl (cyN, 8, .inr (.inr (.inr (.inr fa))))) (hg_nd : g nd = .inr (1, [.ref (ad i), .long nlo, .long nhi, .long nv, .long nst, .long nhs, .long nls, .long ngs])) (hg_nd2 : g nd2 = .inr (1, [.ref (ad i2), .long mlo, .long mhi, .long mv, .long mst, .long mhs, .long mls, .long mgs])) (htN : tys[2]? = some (cyN, .object RX1)) (hia : vp_in x1 8) (hfa : fa x1.toNatClampNeg = some nd) (hia2 : vp_in x2 8) (hfa2 : fa x2.toNatClampNeg = some nd2) (hL_out : out ∈ L) (hg_out : g out = .inl (cyJ, 1, .inr (.inl fo))) (htJ : tys[0]? = some (cyJ, .long)) : Met l yL_between wsL_between ({ frames := 8, cells := 3, slots := 18, locals := 130 }) (PW D tys ad L g [.ref ob, .int x1, .int x2, .int x3, .ref out]) (QE D tys ad L (some (.int (nI (((fX2_between made mvs twi tna fa i nlo nhi nv nst nhs nls ngs i2 mlo mhi mv mst mhs mls mgs x1 x2 x3).1))))) (fun g1 => (((fX2_between made mvs twi tna fa i nlo nhi nv nst nhs nls ngs i2 mlo mhi mv mst mhs mls mgs x1 x2 x3).1) = 0 → g1 out = .inl (cyJ, 1, .inr (.inl (vp_updL fo (0 : Int32).toNatClampNeg ((fX2_between made mvs twi tna fa i nlo nhi nv nst nhs nls ngs i2 mlo mhi mv mst mhs mls mgs x1 x2 x3).2)))) ∧ ∀ q : Nat, q ≠ out → g1 q = g q) ∧ (¬ ((fX2_between made mvs twi tna fa i nlo nhi nv nst nhs nls ngs i2 mlo mhi mv mst mhs mls mgs x1 x2 x3).1) = 0 → ∀ q : Nat, g1 q = g q))) 3 18 (fun q => q ∈ L) := by
  refine va_MetW (cc := cL_between) (maxL := 6) (ret := some .int) (hh := [(0, 11, 14, 21), (0, 11, 18, 13)]) (by decide) rfl ?_
  intro p e s m args below meth c s₁ B hml hv
  obtain ⟨rfl, ⟨hP, hK, hD0, hKC0, hTC⟩, hXN⟩ := hv
  have hD : va_D (fun q => q ∈ L) (va_pl L g) := we_D (fun _ h => h) hD0
  have hKC : KC ad (fun q => q ∈ L) s s.heap := hKC0.narrow (fun _ h => Or.inl h)
  have hS : va_S (fun q => q ∈ L) s.heap s.heap [] := va_S.rf
  have hx := B.exec
  have hb := B.bytes
  have hr := B.returns
  have hts := atoms_spec (ws := wsL_between) B.pre
  have hown : s.vm.findClass RL = some m.cls := findClass_of_methodNamed B.named
  have hlocks := B.notSynchronized
  have hT := vx_table (x := yL_between) B (hts _ List.mem_cons_self)
  have hl := lv_entry ([.ref ob, .int x1, .int x2, .int x3, .ref out]) (n := 6) (Nat.le_of_ble_eq_true rfl)
  rw [lg_entry_eq]
  generalize (lg_sl ([.ref ob, .int x1, .int x2, .int x3, .ref out]) ++ List.replicate (6 - (lg_sl ([.ref ob, .int x1, .int x2, .int x3, .ref out])).length) Slot.unset).toArray = ls at hl ⊢
  have hl : lv_has ls 6 [(0, .ref ob), (1, .int x1), (2, .int x2), (3, .int x3), (4, .ref out)] := hl
  refine lv_aload hx hb dL_between_0 (lv_at hl 4 rfl) ?_
  refine lv_iconst (v := 0) hx hb dL_between_2 (by decide) ?_
  refine lv_aload_n hx hb dL_between_3 rfl (lv_at hl 0 rfl) ?_
  refine lv_iload_n hx hb dL_between_4 rfl (lv_at hl 1 rfl) ?_
  refine lv_iload_n hx hb dL_between_5 rfl (lv_at hl 2 rfl) ?_
  refine lv_iload_n hx hb dL_between_6 rfl (lv_at hl 3 rfl) ?_
  refine hr_V (b := ob) (As := [.int x1, .int x2, .int x3]) (rest := [.int (0 : Int32), .ref out]) ⟨hx, hb, hml, hown, hts⟩ (c_X2_between l hfl D tys ad L g ob arr nd nd2 made mvs twi tna fa i nlo nhi nv nst nhs nls ngs i2 mlo mhi mv mst mhs mls mgs x1 x2 x3 hi hi_i2 hL_ob hL_arr hL_nd hL_nd2 hg_ob hg_arr hg_nd hg_nd2 htN hia hfa hia2 hfa2) (cwV 3 hts gL_between_X2_between rfl rfl rfl hd_X2_between ⟨Nat.le_of_ble_eq_true rfl, Nat.le_of_ble_eq_true rfl⟩) (pg_recv hK hP hL_ob hg_ob rfl) (fun U hU hvm => WM hP hK hD hKC0 hTC hS hU hvm) hXN hS (fun _ h => h) rfl hl.1 rfl (lv_room (Nat.le_of_ble_eq_true rfl)) dL_between_7 ⟨Nat.le_of_ble_eq_true rfl, Nat.le_of_ble_eq_true rfl⟩ (fun E ce q9 H locs hxe hP hD hS hce hcv hcl => ?_) (fun hc0 => ?_)
  · rcases hxe with ⟨hc, rfl⟩ | ⟨hc, rfl⟩ | ⟨hc, rfl⟩
    · refine vx_catch (own := RL) (name := "java/util/NoSuchElementException") (E := nsN) hown [] ⟨0, 11, 14, 21⟩ [⟨0, 11, 18, 13⟩] (hT.trans rfl) (fun _ h => nomatch h) (by decide) (by decide) (hts (.classLink RL 21 "java/util/NoSuchElementException") (by decide +kernel)) (nw_use (w := .castable "java/util/NoSuchElementException" "java/util/NoSuchElementException") rfl (hXN.2 _ (by decide +kernel))) hce hcv hcl ?_
      refine lv_astore (lv' := [(5, .ref q9), (0, .ref ob), (1, .int x1), (2, .int x2), (3, .int x3), (4, .ref out)]) hx hb dL_between_14 hl (by decide) rfl (fun ls hl => ?_)
      refine lv_iconst (v := 1) hx hb dL_between_16 (by decide) ?_
      exact W.widen (k := 3) (n := 18) (Nat.le_of_ble_eq_true rfl) (Nat.le_of_ble_eq_true rfl) (W.iret hx hb hr (fun t ht hW => ⟨by rw [hc]; rfl, ⟨g, WM hP hK hD hKC0 hTC hS ht hW.alike, ⟨fun z => absurd z (by rw [hc]; decide), fun _ _ => rfl⟩⟩, hS.F ht⟩) (fun q h => hS.2.2 q h) dL_between_17)
    · refine vx_catch (own := RL) (name := "java/lang/IllegalArgumentException") (E := ieN) hown [⟨0, 11, 14, 21⟩] ⟨0, 11, 18, 13⟩ [] (hT.trans rfl) (fun z hz => by simp only [List.mem_cons, List.not_mem_nil, or_false] at hz; rcases hz with rfl; exact Or.inr ⟨by decide, "java/util/NoSuchElementException", hts (.classLink RL 21 "java/util/NoSuchElementException") (by decide +kernel), hXN.1.2 ("java/lang/IllegalArgumentException", "java/util/NoSuchElementException") (by decide +kernel)⟩) (by decide) (by decide) (hts (.classLink RL 13 "java/lang/IllegalArgumentException") (by decide +kernel)) (nw_use (w := .castable "java/lang/IllegalArgumentException" "java/lang/IllegalArgumentException") rfl (hXN.2 _ (by decide +kernel))) hce hcv hcl ?_
      refine lv_astore (lv' := [(5, .ref q9), (0, .ref ob), (1, .int x1), (2, .int x2), (3, .int x3), (4, .ref out)]) hx hb dL_between_18 hl (by decide) rfl (fun ls hl => ?_)
      refine lv_iconst (v := 2) hx hb dL_between_20 (by decide) ?_
      exact W.widen (k := 3) (n := 18) (Nat.le_of_ble_eq_true rfl) (Nat.le_of_ble_eq_true rfl) (W.iret hx hb hr (fun t ht hW => ⟨by rw [hc]; rfl, ⟨g, WM hP hK hD hKC0 hTC hS ht hW.alike, ⟨fun z => absurd z (by rw [hc]; decide), fun _ _ => rfl⟩⟩, hS.F ht⟩) (fun q h => hS.2.2 q h) dL_between_21)
    · exact absurd hc (nc3_X2_between _ _ _ _ _ _ _ _ _ _ _ _ _ _ _ _ _ _ _ _ _ _ _ _)
  · refine W.eq (g2 := F0 m 10 ls [.long ((fX2_between made mvs twi tna fa i nlo nhi nv nst nhs nls ngs i2 mlo mhi mv mst mhs mls mgs x1 x2 x3).2), .int (0 : Int32), .ref out]) rfl ?_
    have hr9 : ∀ q : Nat, g q = g q := fun _ => rfl
    refine pg_last hx hb hK hP hD hS 0 hL_out hg_out htJ (by unfold vp_in; decide) dL_between_10 (fun H locs hP hD hS => ?_)
    obtain ⟨g1, eg1⟩ : ∃ z : Nat → va_E, z = va_up g out (.inl (cyJ, 1, .inr (.inl (vp_updL fo (0 : Int32).toNatClampNeg ((fX2_between made mvs twi tna fa i nlo nhi nv nst nhs nls ngs i2 mlo mhi mv mst mhs mls mgs x1 x2 x3).2))))) := ⟨_, rfl⟩
    have hP : va_P D vwCl (va_pl L g1) H := by rw [eg1]; exact hP
    have hD : va_D (fun q => q ∈ L) (va_pl L g1) := by rw [eg1]; exact hD
    have hg_out : g1 out = .inl (cyJ, 1, .inr (.inl (vp_updL fo (0 : Int32).toNatClampNeg ((fX2_between made mvs twi tna fa i nlo nhi nv nst nhs nls ngs i2 mlo mhi mv mst mhs mls mgs x1 x2 x3).2)))) := by rw [eg1]; exact va_up_self _ _ _
    have hr8 : ∀ q : Nat, q ≠ out → g1 q = g q := fun q h_out => (congrFun eg1 q).trans ((va_up_ne _ _ h_out).trans (hr9 q ))
    refine lv_goto (tgt := 22) hx hb dL_between_11 (by decide) ?_
    refine lv_iconst (v := 0) hx hb dL_between_22 (by decide) ?_
    exact W.widen (k := 3) (n := 18) (Nat.le_of_ble_eq_true rfl) (Nat.le_of_ble_eq_true rfl) (W.iret hx hb hr (fun t ht hW => ⟨by rw [hc0]; rfl, ⟨g1, WM hP hK hD hKC0 hTC hS ht hW.alike, ⟨fun _ => ⟨hg_out, hr8⟩, fun z => absurd hc0 z⟩⟩, hS.F ht⟩) (fun q h => hS.2.2 q h) dL_between_23)
theorem nc3_X2_between_s (made : Int32) (mvs : Int32) (twi : Int64) (tna : Int32) (fa : Nat → Option Nat) (i : Nat) (nlo : Int64) (nhi : Int64) (nv : Int64) (nst : Int64) (nhs : Int64) (nls : Int64) (ngs : Int64) (x1 : Int32) (x2 : Int32) (x3 : Int32) : ¬ (fX2_between_s made mvs twi tna fa i nlo nhi nv nst nhs nls ngs x1 x2 x3).1 = 3 := by
  unfold fX2_between_s
  try dsimp only
  repeat' split
  all_goals first | (simp; done) | (have h9 := nf_code i x2; simp only []; omega) | omega
set_option maxHeartbeats 1000000 in
set_option maxRecDepth 100000 in
theorem c_L_between_s (l : Launch) (hfl : l.stackTraces = false) {cyJ : ClassId} {cyN : ClassId} (D : va_G) (tys : List (ClassId × FieldType)) (ad : Nat → Nat) (L : List Nat) (g : Nat → va_E) (ob arr nd out : Nat) (made : Int32) (mvs : Int32) (twi : Int64) (tna : Int32) (fa : Nat → Option Nat) (i : Nat) (nlo : Int64) (nhi : Int64) (nv : Int64) (nst : Int64) (nhs : Int64) (nls : Int64) (ngs : Int64) (x1 : Int32) (x2 : Int32) (x3 : Int32) (fo : Nat → Int64) (hi : i < 2) (hL_ob : ob ∈ L) (hL_arr : arr ∈ L) (hL_nd : nd ∈ L) (hg_ob : g ob = .inr (2, [.ref arr, .int made, .int mvs, .long twi, .int tna])) (hg_arr : g arr = .inl (cyN, 8, .inr (.inr (.inr (.inr fa))))) (hg_nd : g nd = .inr (1, [.ref (ad i), .long nlo, .long nhi, .long nv, .long nst, .long nhs, .long nls, .long ngs])) (htN : tys[2]? = some (cyN, .object RX1)) (hia : vp_in x1 8) (hfa : fa x1.toNatClampNeg = some nd) (hia2 : vp_in x2 8) (hfa2 : fa x2.toNatClampNeg = some nd) (hL_out : out ∈ L) (hg_out : g out = .inl (cyJ, 1, .inr (.inl fo))) (htJ : tys[0]? = some (cyJ, .long)) : Met l yL_between wsL_between ({ frames := 8, cells := 3, slots := 18, locals := 130 }) (PW D tys ad L g [.ref ob, .int x1, .int x2, .int x3, .ref out]) (QE D tys ad L (some (.int (nI (((fX2_between_s made mvs twi tna fa i nlo nhi nv nst nhs nls ngs x1 x2 x3).1))))) (fun g1 => (((fX2_between_s made mvs twi tna fa i nlo nhi nv nst nhs nls ngs x1 x2 x3).1) = 0 → g1 out = .inl (cyJ, 1, .inr (.inl (vp_updL fo (0 : Int32).toNatClampNeg ((fX2_between_s made mvs twi tna fa i nlo nhi nv nst nhs nls ngs x1 x2 x3).2)))) ∧ ∀ q : Nat, q ≠ out → g1 q = g q) ∧ (¬ ((fX2_between_s made mvs twi tna fa i nlo nhi nv nst nhs nls ngs x1 x2 x3).1) = 0 → ∀ q : Nat, g1 q = g q))) 3 18 (fun q => q ∈ L) := by
  refine va_MetW (cc := cL_between) (maxL := 6) (ret := some .int) (hh := [(0, 11, 14, 21), (0, 11, 18, 13)]) (by decide) rfl ?_
  intro p e s m args below meth c s₁ B hml hv
  obtain ⟨rfl, ⟨hP, hK, hD0, hKC0, hTC⟩, hXN⟩ := hv
  have hD : va_D (fun q => q ∈ L) (va_pl L g) := we_D (fun _ h => h) hD0
  have hKC : KC ad (fun q => q ∈ L) s s.heap := hKC0.narrow (fun _ h => Or.inl h)
  have hS : va_S (fun q => q ∈ L) s.heap s.heap [] := va_S.rf
  have hx := B.exec
  have hb := B.bytes
  have hr := B.returns
  have hts := atoms_spec (ws := wsL_between) B.pre
  have hown : s.vm.findClass RL = some m.cls := findClass_of_methodNamed B.named
  have hlocks := B.notSynchronized
  have hT := vx_table (x := yL_between) B (hts _ List.mem_cons_self)
  have hl := lv_entry ([.ref ob, .int x1, .int x2, .int x3, .ref out]) (n := 6) (Nat.le_of_ble_eq_true rfl)
  rw [lg_entry_eq]
  generalize (lg_sl ([.ref ob, .int x1, .int x2, .int x3, .ref out]) ++ List.replicate (6 - (lg_sl ([.ref ob, .int x1, .int x2, .int x3, .ref out])).length) Slot.unset).toArray = ls at hl ⊢
  have hl : lv_has ls 6 [(0, .ref ob), (1, .int x1), (2, .int x2), (3, .int x3), (4, .ref out)] := hl
  refine lv_aload hx hb dL_between_0 (lv_at hl 4 rfl) ?_
  refine lv_iconst (v := 0) hx hb dL_between_2 (by decide) ?_
  refine lv_aload_n hx hb dL_between_3 rfl (lv_at hl 0 rfl) ?_
  refine lv_iload_n hx hb dL_between_4 rfl (lv_at hl 1 rfl) ?_
  refine lv_iload_n hx hb dL_between_5 rfl (lv_at hl 2 rfl) ?_
  refine lv_iload_n hx hb dL_between_6 rfl (lv_at hl 3 rfl) ?_
  refine hr_V (b := ob) (As := [.int x1, .int x2, .int x3]) (rest := [.int (0 : Int32), .ref out]) ⟨hx, hb, hml, hown, hts⟩ (c_X2_between_s l hfl D tys ad L g ob arr nd made mvs twi tna fa i nlo nhi nv nst nhs nls ngs x1 x2 x3 hi hL_ob hL_arr hL_nd hg_ob hg_arr hg_nd htN hia hfa hia2 hfa2) (cwV 3 hts gL_between_X2_between rfl rfl rfl hd_X2_between ⟨Nat.le_of_ble_eq_true rfl, Nat.le_of_ble_eq_true rfl⟩) (pg_recv hK hP hL_ob hg_ob rfl) (fun U hU hvm => WM hP hK hD hKC0 hTC hS hU hvm) hXN hS (fun _ h => h) rfl hl.1 rfl (lv_room (Nat.le_of_ble_eq_true rfl)) dL_between_7 ⟨Nat.le_of_ble_eq_true rfl, Nat.le_of_ble_eq_true rfl⟩ (fun E ce q9 H locs hxe hP hD hS hce hcv hcl => ?_) (fun hc0 => ?_)
  · rcases hxe with ⟨hc, rfl⟩ | ⟨hc, rfl⟩ | ⟨hc, rfl⟩
    · refine vx_catch (own := RL) (name := "java/util/NoSuchElementException") (E := nsN) hown [] ⟨0, 11, 14, 21⟩ [⟨0, 11, 18, 13⟩] (hT.trans rfl) (fun _ h => nomatch h) (by decide) (by decide) (hts (.classLink RL 21 "java/util/NoSuchElementException") (by decide +kernel)) (nw_use (w := .castable "java/util/NoSuchElementException" "java/util/NoSuchElementException") rfl (hXN.2 _ (by decide +kernel))) hce hcv hcl ?_
      refine lv_astore (lv' := [(5, .ref q9), (0, .ref ob), (1, .int x1), (2, .int x2), (3, .int x3), (4, .ref out)]) hx hb dL_between_14 hl (by decide) rfl (fun ls hl => ?_)
      refine lv_iconst (v := 1) hx hb dL_between_16 (by decide) ?_
      exact W.widen (k := 3) (n := 18) (Nat.le_of_ble_eq_true rfl) (Nat.le_of_ble_eq_true rfl) (W.iret hx hb hr (fun t ht hW => ⟨by rw [hc]; rfl, ⟨g, WM hP hK hD hKC0 hTC hS ht hW.alike, ⟨fun z => absurd z (by rw [hc]; decide), fun _ _ => rfl⟩⟩, hS.F ht⟩) (fun q h => hS.2.2 q h) dL_between_17)
    · refine vx_catch (own := RL) (name := "java/lang/IllegalArgumentException") (E := ieN) hown [⟨0, 11, 14, 21⟩] ⟨0, 11, 18, 13⟩ [] (hT.trans rfl) (fun z hz => by simp only [List.mem_cons, List.not_mem_nil, or_false] at hz; rcases hz with rfl; exact Or.inr ⟨by decide, "java/util/NoSuchElementException", hts (.classLink RL 21 "java/util/NoSuchElementException") (by decide +kernel), hXN.1.2 ("java/lang/IllegalArgumentException", "java/util/NoSuchElementException") (by decide +kernel)⟩) (by decide) (by decide) (hts (.classLink RL 13 "java/lang/IllegalArgumentException") (by decide +kernel)) (nw_use (w := .castable "java/lang/IllegalArgumentException" "java/lang/IllegalArgumentException") rfl (hXN.2 _ (by decide +kernel))) hce hcv hcl ?_
      refine lv_astore (lv' := [(5, .ref q9), (0, .ref ob), (1, .int x1), (2, .int x2), (3, .int x3), (4, .ref out)]) hx hb dL_between_18 hl (by decide) rfl (fun ls hl => ?_)
      refine lv_iconst (v := 2) hx hb dL_between_20 (by decide) ?_
      exact W.widen (k := 3) (n := 18) (Nat.le_of_ble_eq_true rfl) (Nat.le_of_ble_eq_true rfl) (W.iret hx hb hr (fun t ht hW => ⟨by rw [hc]; rfl, ⟨g, WM hP hK hD hKC0 hTC hS ht hW.alike, ⟨fun z => absurd z (by rw [hc]; decide), fun _ _ => rfl⟩⟩, hS.F ht⟩) (fun q h => hS.2.2 q h) dL_between_21)
    · exact absurd hc (nc3_X2_between_s _ _ _ _ _ _ _ _ _ _ _ _ _ _ _ _)
  · refine W.eq (g2 := F0 m 10 ls [.long ((fX2_between_s made mvs twi tna fa i nlo nhi nv nst nhs nls ngs x1 x2 x3).2), .int (0 : Int32), .ref out]) rfl ?_
    have hr9 : ∀ q : Nat, g q = g q := fun _ => rfl
    refine pg_last hx hb hK hP hD hS 0 hL_out hg_out htJ (by unfold vp_in; decide) dL_between_10 (fun H locs hP hD hS => ?_)
    obtain ⟨g1, eg1⟩ : ∃ z : Nat → va_E, z = va_up g out (.inl (cyJ, 1, .inr (.inl (vp_updL fo (0 : Int32).toNatClampNeg ((fX2_between_s made mvs twi tna fa i nlo nhi nv nst nhs nls ngs x1 x2 x3).2))))) := ⟨_, rfl⟩
    have hP : va_P D vwCl (va_pl L g1) H := by rw [eg1]; exact hP
    have hD : va_D (fun q => q ∈ L) (va_pl L g1) := by rw [eg1]; exact hD
    have hg_out : g1 out = .inl (cyJ, 1, .inr (.inl (vp_updL fo (0 : Int32).toNatClampNeg ((fX2_between_s made mvs twi tna fa i nlo nhi nv nst nhs nls ngs x1 x2 x3).2)))) := by rw [eg1]; exact va_up_self _ _ _
    have hr8 : ∀ q : Nat, q ≠ out → g1 q = g q := fun q h_out => (congrFun eg1 q).trans ((va_up_ne _ _ h_out).trans (hr9 q ))
    refine lv_goto (tgt := 22) hx hb dL_between_11 (by decide) ?_
    refine lv_iconst (v := 0) hx hb dL_between_22 (by decide) ?_
    exact W.widen (k := 3) (n := 18) (Nat.le_of_ble_eq_true rfl) (Nat.le_of_ble_eq_true rfl) (W.iret hx hb hr (fun t ht hW => ⟨by rw [hc0]; rfl, ⟨g1, WM hP hK hD hKC0 hTC hS ht hW.alike, ⟨fun _ => ⟨hg_out, hr8⟩, fun z => absurd hc0 z⟩⟩, hS.F ht⟩) (fun q h => hS.2.2 q h) dL_between_23)
theorem hd_L_order : yL_order.cls ≠ "java/lang/invoke/MethodHandle" ∧ yL_order.cls ≠ "java/lang/invoke/VarHandle" ∧ (parseMethodDescriptor yL_order.desc).map (fun d => d.parameters.length) = some 4 := by decide +kernel
set_option maxHeartbeats 1000000 in
set_option maxRecDepth 100000 in
theorem c_L_order_no (l : Launch) (hfl : l.stackTraces = false) {cyJ : ClassId} {cyN : ClassId} (D : va_G) (tys : List (ClassId × FieldType)) (ad : Nat → Nat) (L : List Nat) (g : Nat → va_E) (ob arr out : Nat) (made : Int32) (mvs : Int32) (twi : Int64) (tna : Int32) (fa : Nat → Option Nat) (x1 : Int32) (x2 : Int32) (fo : Nat → Int64) (hL_ob : ob ∈ L) (hL_arr : arr ∈ L) (hg_ob : g ob = .inr (2, [.ref arr, .int made, .int mvs, .long twi, .int tna])) (hg_arr : g arr = .inl (cyN, 8, .inr (.inr (.inr (.inr fa))))) (htN : tys[2]? = some (cyN, .object RX1)) (hab : ¬ vp_in x1 8 ∨ fa x1.toNatClampNeg = none) (hL_out : out ∈ L) (hg_out : g out = .inl (cyJ, 1, .inr (.inl fo))) (htJ : tys[0]? = some (cyJ, .long)) : Met l yL_order wsL_order ({ frames := 8, cells := 1, slots := 6, locals := 130 }) (PW D tys ad L g [.ref ob, .int x1, .int x2, .ref out]) (QE D tys ad L (some (.int (nI (1)))) (fun g1 => ∀ q : Nat, g1 q = g q)) 1 6 (fun q => q ∈ L) := by
  refine va_MetW (cc := cL_order) (maxL := 5) (ret := some .int) (hh := [(0, 10, 13, 21)]) (by decide) rfl ?_
  intro p e s m args below meth c s₁ B hml hv
  obtain ⟨rfl, ⟨hP, hK, hD0, hKC0, hTC⟩, hXN⟩ := hv
  have hD : va_D (fun q => q ∈ L) (va_pl L g) := we_D (fun _ h => h) hD0
  have hKC : KC ad (fun q => q ∈ L) s s.heap := hKC0.narrow (fun _ h => Or.inl h)
  have hS : va_S (fun q => q ∈ L) s.heap s.heap [] := va_S.rf
  have hx := B.exec
  have hb := B.bytes
  have hr := B.returns
  have hts := atoms_spec (ws := wsL_order) B.pre
  have hown : s.vm.findClass RL = some m.cls := findClass_of_methodNamed B.named
  have hlocks := B.notSynchronized
  have hT := vx_table (x := yL_order) B (hts _ List.mem_cons_self)
  have hl := lv_entry ([.ref ob, .int x1, .int x2, .ref out]) (n := 5) (Nat.le_of_ble_eq_true rfl)
  rw [lg_entry_eq]
  generalize (lg_sl ([.ref ob, .int x1, .int x2, .ref out]) ++ List.replicate (5 - (lg_sl ([.ref ob, .int x1, .int x2, .ref out])).length) Slot.unset).toArray = ls at hl ⊢
  have hl : lv_has ls 5 [(0, .ref ob), (1, .int x1), (2, .int x2), (3, .ref out)] := hl
  refine lv_aload_n hx hb dL_order_0 rfl (lv_at hl 3 rfl) ?_
  refine lv_iconst (v := 0) hx hb dL_order_1 (by decide) ?_
  refine lv_aload_n hx hb dL_order_2 rfl (lv_at hl 0 rfl) ?_
  refine lv_iload_n hx hb dL_order_3 rfl (lv_at hl 1 rfl) ?_
  refine lv_iload_n hx hb dL_order_4 rfl (lv_at hl 2 rfl) ?_
  refine hr_V (b := ob) (As := [.int x1, .int x2]) (rest := [.int (0 : Int32), .ref out]) ⟨hx, hb, hml, hown, hts⟩ (c_X2_order_no l hfl D tys ad L g ob arr made mvs twi tna fa x1 x2 hL_ob hL_arr hg_ob hg_arr htN hab) (cwV 2 hts gL_order_X2_order rfl rfl rfl hd_X2_order ⟨Nat.le_of_ble_eq_true rfl, Nat.le_of_ble_eq_true rfl⟩) (pg_recv hK hP hL_ob hg_ob rfl) (fun U hU hvm => WM hP hK hD hKC0 hTC hS hU hvm) hXN hS (fun _ h => h) rfl hl.1 rfl (lv_room (Nat.le_of_ble_eq_true rfl)) dL_order_5 ⟨Nat.le_of_ble_eq_true rfl, Nat.le_of_ble_eq_true rfl⟩ (fun E ce q9 H locs hxe hP hD hS hce hcv hcl => ?_) (fun hc0 => ?_)
  · rcases hxe with ⟨hc, rfl⟩ | ⟨hc, rfl⟩ | ⟨hc, rfl⟩
    · refine vx_catch (own := RL) (name := "java/util/NoSuchElementException") (E := nsN) hown [] ⟨0, 10, 13, 21⟩ [] (hT.trans rfl) (fun _ h => nomatch h) (by decide) (by decide) (hts (.classLink RL 21 "java/util/NoSuchElementException") (by decide +kernel)) (nw_use (w := .castable "java/util/NoSuchElementException" "java/util/NoSuchElementException") rfl (hXN.2 _ (by decide +kernel))) hce hcv hcl ?_
      refine lv_astore (lv' := [(4, .ref q9), (0, .ref ob), (1, .int x1), (2, .int x2), (3, .ref out)]) hx hb dL_order_13 hl (by decide) rfl (fun ls hl => ?_)
      refine lv_iconst (v := 1) hx hb dL_order_15 (by decide) ?_
      exact W.widen (k := 1) (n := 6) (Nat.le_of_ble_eq_true rfl) (Nat.le_of_ble_eq_true rfl) (W.iret hx hb hr (fun t ht hW => ⟨rfl, ⟨g, WM hP hK hD hKC0 hTC hS ht hW.alike, fun _ => rfl⟩, hS.F ht⟩) (fun q h => hS.2.2 q h) dL_order_16)
    · exact absurd hc (by decide)
    · exact absurd hc (by decide)
  · exact absurd hc0 (by decide)
set_option maxHeartbeats 1000000 in
set_option maxRecDepth 100000 in
theorem c_L_order_no2 (l : Launch) (hfl : l.stackTraces = false) {cyJ : ClassId} {cyN : ClassId} (D : va_G) (tys : List (ClassId × FieldType)) (ad : Nat → Nat) (L : List Nat) (g : Nat → va_E) (ob arr nd out : Nat) (made : Int32) (mvs : Int32) (twi : Int64) (tna : Int32) (fa : Nat → Option Nat) (i : Nat) (nlo : Int64) (nhi : Int64) (nv : Int64) (nst : Int64) (nhs : Int64) (nls : Int64) (ngs : Int64) (x1 : Int32) (x2 : Int32) (fo : Nat → Int64) (hi : i < 2) (hL_ob : ob ∈ L) (hL_arr : arr ∈ L) (hL_nd : nd ∈ L) (hg_ob : g ob = .inr (2, [.ref arr, .int made, .int mvs, .long twi, .int tna])) (hg_arr : g arr = .inl (cyN, 8, .inr (.inr (.inr (.inr fa))))) (hg_nd : g nd = .inr (1, [.ref (ad i), .long nlo, .long nhi, .long nv, .long nst, .long nhs, .long nls, .long ngs])) (htN : tys[2]? = some (cyN, .object RX1)) (hia : vp_in x1 8) (hfa : fa x1.toNatClampNeg = some nd) (hab2 : ¬ vp_in x2 8 ∨ fa x2.toNatClampNeg = none) (hL_out : out ∈ L) (hg_out : g out = .inl (cyJ, 1, .inr (.inl fo))) (htJ : tys[0]? = some (cyJ, .long)) : Met l yL_order wsL_order ({ frames := 8, cells := 2, slots := 12, locals := 150 }) (PW D tys ad L g [.ref ob, .int x1, .int x2, .ref out]) (QE D tys ad L (some (.int (nI (1)))) (fun g1 => ∀ q : Nat, g1 q = g q)) 2 12 (fun q => q ∈ L) := by
  refine va_MetW (cc := cL_order) (maxL := 5) (ret := some .int) (hh := [(0, 10, 13, 21)]) (by decide) rfl ?_
  intro p e s m args below meth c s₁ B hml hv
  obtain ⟨rfl, ⟨hP, hK, hD0, hKC0, hTC⟩, hXN⟩ := hv
  have hD : va_D (fun q => q ∈ L) (va_pl L g) := we_D (fun _ h => h) hD0
  have hKC : KC ad (fun q => q ∈ L) s s.heap := hKC0.narrow (fun _ h => Or.inl h)
  have hS : va_S (fun q => q ∈ L) s.heap s.heap [] := va_S.rf
  have hx := B.exec
  have hb := B.bytes
  have hr := B.returns
  have hts := atoms_spec (ws := wsL_order) B.pre
  have hown : s.vm.findClass RL = some m.cls := findClass_of_methodNamed B.named
  have hlocks := B.notSynchronized
  have hT := vx_table (x := yL_order) B (hts _ List.mem_cons_self)
  have hl := lv_entry ([.ref ob, .int x1, .int x2, .ref out]) (n := 5) (Nat.le_of_ble_eq_true rfl)
  rw [lg_entry_eq]
  generalize (lg_sl ([.ref ob, .int x1, .int x2, .ref out]) ++ List.replicate (5 - (lg_sl ([.ref ob, .int x1, .int x2, .ref out])).length) Slot.unset).toArray = ls at hl ⊢
  have hl : lv_has ls 5 [(0, .ref ob), (1, .int x1), (2, .int x2), (3, .ref out)] := hl
  refine lv_aload_n hx hb dL_order_0 rfl (lv_at hl 3 rfl) ?_
  refine lv_iconst (v := 0) hx hb dL_order_1 (by decide) ?_
  refine lv_aload_n hx hb dL_order_2 rfl (lv_at hl 0 rfl) ?_
  refine lv_iload_n hx hb dL_order_3 rfl (lv_at hl 1 rfl) ?_
  refine lv_iload_n hx hb dL_order_4 rfl (lv_at hl 2 rfl) ?_
  refine hr_V (b := ob) (As := [.int x1, .int x2]) (rest := [.int (0 : Int32), .ref out]) ⟨hx, hb, hml, hown, hts⟩ (c_X2_order_no2 l hfl D tys ad L g ob arr nd made mvs twi tna fa i nlo nhi nv nst nhs nls ngs x1 x2 hi hL_ob hL_arr hL_nd hg_ob hg_arr hg_nd htN hia hfa hab2) (cwV 2 hts gL_order_X2_order rfl rfl rfl hd_X2_order ⟨Nat.le_of_ble_eq_true rfl, Nat.le_of_ble_eq_true rfl⟩) (pg_recv hK hP hL_ob hg_ob rfl) (fun U hU hvm => WM hP hK hD hKC0 hTC hS hU hvm) hXN hS (fun _ h => h) rfl hl.1 rfl (lv_room (Nat.le_of_ble_eq_true rfl)) dL_order_5 ⟨Nat.le_of_ble_eq_true rfl, Nat.le_of_ble_eq_true rfl⟩ (fun E ce q9 H locs hxe hP hD hS hce hcv hcl => ?_) (fun hc0 => ?_)
  · rcases hxe with ⟨hc, rfl⟩ | ⟨hc, rfl⟩ | ⟨hc, rfl⟩
    · refine vx_catch (own := RL) (name := "java/util/NoSuchElementException") (E := nsN) hown [] ⟨0, 10, 13, 21⟩ [] (hT.trans rfl) (fun _ h => nomatch h) (by decide) (by decide) (hts (.classLink RL 21 "java/util/NoSuchElementException") (by decide +kernel)) (nw_use (w := .castable "java/util/NoSuchElementException" "java/util/NoSuchElementException") rfl (hXN.2 _ (by decide +kernel))) hce hcv hcl ?_
      refine lv_astore (lv' := [(4, .ref q9), (0, .ref ob), (1, .int x1), (2, .int x2), (3, .ref out)]) hx hb dL_order_13 hl (by decide) rfl (fun ls hl => ?_)
      refine lv_iconst (v := 1) hx hb dL_order_15 (by decide) ?_
      exact W.widen (k := 2) (n := 12) (Nat.le_of_ble_eq_true rfl) (Nat.le_of_ble_eq_true rfl) (W.iret hx hb hr (fun t ht hW => ⟨rfl, ⟨g, WM hP hK hD hKC0 hTC hS ht hW.alike, fun _ => rfl⟩, hS.F ht⟩) (fun q h => hS.2.2 q h) dL_order_16)
    · exact absurd hc (by decide)
    · exact absurd hc (by decide)
  · exact absurd hc0 (by decide)
theorem nc2_X2_order (made : Int32) (mvs : Int32) (twi : Int64) (tna : Int32) (fa : Nat → Option Nat) (i : Nat) (nlo : Int64) (nhi : Int64) (nv : Int64) (nst : Int64) (nhs : Int64) (nls : Int64) (ngs : Int64) (i2 : Nat) (mlo : Int64) (mhi : Int64) (mv : Int64) (mst : Int64) (mhs : Int64) (mls : Int64) (mgs : Int64) (x1 : Int32) (x2 : Int32) : ¬ (fX2_order made mvs twi tna fa i nlo nhi nv nst nhs nls ngs i2 mlo mhi mv mst mhs mls mgs x1 x2).1 = 2 := by
  unfold fX2_order
  try dsimp only
  repeat' split
  all_goals first | (simp; done) | (have h9 := nf_code i x2; simp only []; omega) | omega
theorem nc3_X2_order (made : Int32) (mvs : Int32) (twi : Int64) (tna : Int32) (fa : Nat → Option Nat) (i : Nat) (nlo : Int64) (nhi : Int64) (nv : Int64) (nst : Int64) (nhs : Int64) (nls : Int64) (ngs : Int64) (i2 : Nat) (mlo : Int64) (mhi : Int64) (mv : Int64) (mst : Int64) (mhs : Int64) (mls : Int64) (mgs : Int64) (x1 : Int32) (x2 : Int32) : ¬ (fX2_order made mvs twi tna fa i nlo nhi nv nst nhs nls ngs i2 mlo mhi mv mst mhs mls mgs x1 x2).1 = 3 := by
  unfold fX2_order
  try dsimp only
  repeat' split
  all_goals first | (simp; done) | (have h9 := nf_code i x2; simp only []; omega) | omega
set_option maxHeartbeats 1000000 in
set_option maxRecDepth 100000 in
theorem c_L_order (l : Launch) (hfl : l.stackTraces = false) {cyJ : ClassId} {cyN : ClassId} (D : va_G) (tys : List (ClassId × FieldType)) (ad : Nat → Nat) (L : List Nat) (g : Nat → va_E) (ob arr nd nd2 out : Nat) (made : Int32) (mvs : Int32) (twi : Int64) (tna : Int32) (fa : Nat → Option Nat) (i : Nat) (nlo : Int64) (nhi : Int64) (nv : Int64) (nst : Int64) (nhs : Int64) (nls : Int64) (ngs : Int64) (i2 : Nat) (mlo : Int64) (mhi : Int64) (mv : Int64) (mst : Int64) (mhs : Int64) (mls : Int64) (mgs : Int64) (x1 : Int32) (x2 : Int32) (fo : Nat → Int64) (hi : i < 2) (hi_i2 : i2 < 2) (hL_ob : ob ∈ L) (hL_arr : arr ∈ L) (hL_nd : nd ∈ L) (hL_nd2 : nd2 ∈ L) (hg_ob : g ob = .inr (2, [.ref arr, .int made, .int mvs, .long twi, .int tna])) (hg_arr : g arr = .inl (cyN, 8, .inr (.inr (.inr (.inr fa))))) (hg_nd : g nd = .inr (1, [.ref (ad i), .long nlo, .long nhi, .long nv, .long nst, .long nhs, .long nls, .long ngs])) (hg_nd2 : g nd2 = .inr (1, [.ref (ad i2), .long mlo, .long mhi, .long mv, .long mst, .long mhs, .long mls, .long mgs])) (htN : tys[2]? = some (cyN, .object RX1)) (hia : vp_in x1 8) (hfa : fa x1.toNatClampNeg = some nd) (hia2 : vp_in x2 8) (hfa2 : fa x2.toNatClampNeg = some nd2) (hL_out : out ∈ L) (hg_out : g out = .inl (cyJ, 1, .inr (.inl fo))) (htJ : tys[0]? = some (cyJ, .long)) : Met l yL_order wsL_order ({ frames := 8, cells := 2, slots := 12, locals := 150 }) (PW D tys ad L g [.ref ob, .int x1, .int x2, .ref out]) (QE D tys ad L (some (.int (nI (((fX2_order made mvs twi tna fa i nlo nhi nv nst nhs nls ngs i2 mlo mhi mv mst mhs mls mgs x1 x2).1))))) (fun g1 => (((fX2_order made mvs twi tna fa i nlo nhi nv nst nhs nls ngs i2 mlo mhi mv mst mhs mls mgs x1 x2).1) = 0 → g1 out = .inl (cyJ, 1, .inr (.inl (vp_updL fo (0 : Int32).toNatClampNeg (((fX2_order made mvs twi tna fa i nlo nhi nv nst nhs nls ngs i2 mlo mhi mv mst mhs mls mgs x1 x2).2).toInt64)))) ∧ ∀ q : Nat, q ≠ out → g1 q = g q) ∧ (¬ ((fX2_order made mvs twi tna fa i nlo nhi nv nst nhs nls ngs i2 mlo mhi mv mst mhs mls mgs x1 x2).1) = 0 → ∀ q : Nat, g1 q = g q))) 2 12 (fun q => q ∈ L) := by
  refine va_MetW (cc := cL_order) (maxL := 5) (ret := some .int) (hh := [(0, 10, 13, 21)]) (by decide) rfl ?_
  intro p e s m args below meth c s₁ B hml hv
  obtain ⟨rfl, ⟨hP, hK, hD0, hKC0, hTC⟩, hXN⟩ := hv
  have hD : va_D (fun q => q ∈ L) (va_pl L g) := we_D (fun _ h => h) hD0
  have hKC : KC ad (fun q => q ∈ L) s s.heap := hKC0.narrow (fun _ h => Or.inl h)
  have hS : va_S (fun q => q ∈ L) s.heap s.heap [] := va_S.rf
  have hx := B.exec
  have hb := B.bytes
  have hr := B.returns
  have hts := atoms_spec (ws := wsL_order) B.pre
  have hown : s.vm.findClass RL = some m.cls := findClass_of_methodNamed B.named
  have hlocks := B.notSynchronized
  have hT := vx_table (x := yL_order) B (hts _ List.mem_cons_self)
  have hl := lv_entry ([.ref ob, .int x1, .int x2, .ref out]) (n := 5) (Nat.le_of_ble_eq_true rfl)
  rw [lg_entry_eq]
  generalize (lg_sl ([.ref ob, .int x1, .int x2, .ref out]) ++ List.replicate (5 - (lg_sl ([.ref ob, .int x1, .int x2, .ref out])).length) Slot.unset).toArray = ls at hl ⊢
  have hl : lv_has ls 5 [(0, .ref ob), (1, .int x1), (2, .int x2), (3, .ref out)] := hl
  refine lv_aload_n hx hb dL_order_0 rfl (lv_at hl 3 rfl) ?_
  refine lv_iconst (v := 0) hx hb dL_order_1 (by decide) ?_
  refine lv_aload_n hx hb dL_order_2 rfl (lv_at hl 0 rfl) ?_
  refine lv_iload_n hx hb dL_order_3 rfl (lv_at hl 1 rfl) ?_
  refine lv_iload_n hx hb dL_order_4 rfl (lv_at hl 2 rfl) ?_
  refine hr_V (b := ob) (As := [.int x1, .int x2]) (rest := [.int (0 : Int32), .ref out]) ⟨hx, hb, hml, hown, hts⟩ (c_X2_order l hfl D tys ad L g ob arr nd nd2 made mvs twi tna fa i nlo nhi nv nst nhs nls ngs i2 mlo mhi mv mst mhs mls mgs x1 x2 hi hi_i2 hL_ob hL_arr hL_nd hL_nd2 hg_ob hg_arr hg_nd hg_nd2 htN hia hfa hia2 hfa2) (cwV 2 hts gL_order_X2_order rfl rfl rfl hd_X2_order ⟨Nat.le_of_ble_eq_true rfl, Nat.le_of_ble_eq_true rfl⟩) (pg_recv hK hP hL_ob hg_ob rfl) (fun U hU hvm => WM hP hK hD hKC0 hTC hS hU hvm) hXN hS (fun _ h => h) rfl hl.1 rfl (lv_room (Nat.le_of_ble_eq_true rfl)) dL_order_5 ⟨Nat.le_of_ble_eq_true rfl, Nat.le_of_ble_eq_true rfl⟩ (fun E ce q9 H locs hxe hP hD hS hce hcv hcl => ?_) (fun hc0 => ?_)
  · rcases hxe with ⟨hc, rfl⟩ | ⟨hc, rfl⟩ | ⟨hc, rfl⟩
    · refine vx_catch (own := RL) (name := "java/util/NoSuchElementException") (E := nsN) hown [] ⟨0, 10, 13, 21⟩ [] (hT.trans rfl) (fun _ h => nomatch h) (by decide) (by decide) (hts (.classLink RL 21 "java/util/NoSuchElementException") (by decide +kernel)) (nw_use (w := .castable "java/util/NoSuchElementException" "java/util/NoSuchElementException") rfl (hXN.2 _ (by decide +kernel))) hce hcv hcl ?_
      refine lv_astore (lv' := [(4, .ref q9), (0, .ref ob), (1, .int x1), (2, .int x2), (3, .ref out)]) hx hb dL_order_13 hl (by decide) rfl (fun ls hl => ?_)
      refine lv_iconst (v := 1) hx hb dL_order_15 (by decide) ?_
      exact W.widen (k := 2) (n := 12) (Nat.le_of_ble_eq_true rfl) (Nat.le_of_ble_eq_true rfl) (W.iret hx hb hr (fun t ht hW => ⟨by rw [hc]; rfl, ⟨g, WM hP hK hD hKC0 hTC hS ht hW.alike, ⟨fun z => absurd z (by rw [hc]; decide), fun _ _ => rfl⟩⟩, hS.F ht⟩) (fun q h => hS.2.2 q h) dL_order_16)
    · exact absurd hc (nc2_X2_order _ _ _ _ _ _ _ _ _ _ _ _ _ _ _ _ _ _ _ _ _ _ _)
    · exact absurd hc (nc3_X2_order _ _ _ _ _ _ _ _ _ _ _ _ _ _ _ _ _ _ _ _ _ _ _)
  · refine W.eq (g2 := F0 m 8 ls [.int ((fX2_order made mvs twi tna fa i nlo nhi nv nst nhs nls ngs i2 mlo mhi mv mst mhs mls mgs x1 x2).2), .int (0 : Int32), .ref out]) rfl ?_
    have hr9 : ∀ q : Nat, g q = g q := fun _ => rfl
    refine lv_i2l hx hb dL_order_8 rfl ?_
    refine pg_last hx hb hK hP hD hS 0 hL_out hg_out htJ (by unfold vp_in; decide) dL_order_9 (fun H locs hP hD hS => ?_)
    obtain ⟨g1, eg1⟩ : ∃ z : Nat → va_E, z = va_up g out (.inl (cyJ, 1, .inr (.inl (vp_updL fo (0 : Int32).toNatClampNeg (((fX2_order made mvs twi tna fa i nlo nhi nv nst nhs nls ngs i2 mlo mhi mv mst mhs mls mgs x1 x2).2).toInt64))))) := ⟨_, rfl⟩
    have hP : va_P D vwCl (va_pl L g1) H := by rw [eg1]; exact hP
    have hD : va_D (fun q => q ∈ L) (va_pl L g1) := by rw [eg1]; exact hD
    have hg_out : g1 out = .inl (cyJ, 1, .inr (.inl (vp_updL fo (0 : Int32).toNatClampNeg (((fX2_order made mvs twi tna fa i nlo nhi nv nst nhs nls ngs i2 mlo mhi mv mst mhs mls mgs x1 x2).2).toInt64)))) := by rw [eg1]; exact va_up_self _ _ _
    have hr8 : ∀ q : Nat, q ≠ out → g1 q = g q := fun q h_out => (congrFun eg1 q).trans ((va_up_ne _ _ h_out).trans (hr9 q ))
    refine lv_goto (tgt := 17) hx hb dL_order_10 (by decide) ?_
    refine lv_iconst (v := 0) hx hb dL_order_17 (by decide) ?_
    exact W.widen (k := 2) (n := 12) (Nat.le_of_ble_eq_true rfl) (Nat.le_of_ble_eq_true rfl) (W.iret hx hb hr (fun t ht hW => ⟨by rw [hc0]; rfl, ⟨g1, WM hP hK hD hKC0 hTC hS ht hW.alike, ⟨fun _ => ⟨hg_out, hr8⟩, fun z => absurd hc0 z⟩⟩, hS.F ht⟩) (fun q h => hS.2.2 q h) dL_order_18)
theorem nc2_X2_order_s (made : Int32) (mvs : Int32) (twi : Int64) (tna : Int32) (fa : Nat → Option Nat) (i : Nat) (nlo : Int64) (nhi : Int64) (nv : Int64) (nst : Int64) (nhs : Int64) (nls : Int64) (ngs : Int64) (x1 : Int32) (x2 : Int32) : ¬ (fX2_order_s made mvs twi tna fa i nlo nhi nv nst nhs nls ngs x1 x2).1 = 2 := by
  unfold fX2_order_s
  try dsimp only
  repeat' split
  all_goals first | (simp; done) | (have h9 := nf_code i x2; simp only []; omega) | omega
theorem nc3_X2_order_s (made : Int32) (mvs : Int32) (twi : Int64) (tna : Int32) (fa : Nat → Option Nat) (i : Nat) (nlo : Int64) (nhi : Int64) (nv : Int64) (nst : Int64) (nhs : Int64) (nls : Int64) (ngs : Int64) (x1 : Int32) (x2 : Int32) : ¬ (fX2_order_s made mvs twi tna fa i nlo nhi nv nst nhs nls ngs x1 x2).1 = 3 := by
  unfold fX2_order_s
  try dsimp only
  repeat' split
  all_goals first | (simp; done) | (have h9 := nf_code i x2; simp only []; omega) | omega
set_option maxHeartbeats 1000000 in
set_option maxRecDepth 100000 in
theorem c_L_order_s (l : Launch) (hfl : l.stackTraces = false) {cyJ : ClassId} {cyN : ClassId} (D : va_G) (tys : List (ClassId × FieldType)) (ad : Nat → Nat) (L : List Nat) (g : Nat → va_E) (ob arr nd out : Nat) (made : Int32) (mvs : Int32) (twi : Int64) (tna : Int32) (fa : Nat → Option Nat) (i : Nat) (nlo : Int64) (nhi : Int64) (nv : Int64) (nst : Int64) (nhs : Int64) (nls : Int64) (ngs : Int64) (x1 : Int32) (x2 : Int32) (fo : Nat → Int64) (hi : i < 2) (hL_ob : ob ∈ L) (hL_arr : arr ∈ L) (hL_nd : nd ∈ L) (hg_ob : g ob = .inr (2, [.ref arr, .int made, .int mvs, .long twi, .int tna])) (hg_arr : g arr = .inl (cyN, 8, .inr (.inr (.inr (.inr fa))))) (hg_nd : g nd = .inr (1, [.ref (ad i), .long nlo, .long nhi, .long nv, .long nst, .long nhs, .long nls, .long ngs])) (htN : tys[2]? = some (cyN, .object RX1)) (hia : vp_in x1 8) (hfa : fa x1.toNatClampNeg = some nd) (hia2 : vp_in x2 8) (hfa2 : fa x2.toNatClampNeg = some nd) (hL_out : out ∈ L) (hg_out : g out = .inl (cyJ, 1, .inr (.inl fo))) (htJ : tys[0]? = some (cyJ, .long)) : Met l yL_order wsL_order ({ frames := 8, cells := 2, slots := 12, locals := 150 }) (PW D tys ad L g [.ref ob, .int x1, .int x2, .ref out]) (QE D tys ad L (some (.int (nI (((fX2_order_s made mvs twi tna fa i nlo nhi nv nst nhs nls ngs x1 x2).1))))) (fun g1 => (((fX2_order_s made mvs twi tna fa i nlo nhi nv nst nhs nls ngs x1 x2).1) = 0 → g1 out = .inl (cyJ, 1, .inr (.inl (vp_updL fo (0 : Int32).toNatClampNeg (((fX2_order_s made mvs twi tna fa i nlo nhi nv nst nhs nls ngs x1 x2).2).toInt64)))) ∧ ∀ q : Nat, q ≠ out → g1 q = g q) ∧ (¬ ((fX2_order_s made mvs twi tna fa i nlo nhi nv nst nhs nls ngs x1 x2).1) = 0 → ∀ q : Nat, g1 q = g q))) 2 12 (fun q => q ∈ L) := by
  refine va_MetW (cc := cL_order) (maxL := 5) (ret := some .int) (hh := [(0, 10, 13, 21)]) (by decide) rfl ?_
  intro p e s m args below meth c s₁ B hml hv
  obtain ⟨rfl, ⟨hP, hK, hD0, hKC0, hTC⟩, hXN⟩ := hv
  have hD : va_D (fun q => q ∈ L) (va_pl L g) := we_D (fun _ h => h) hD0
  have hKC : KC ad (fun q => q ∈ L) s s.heap := hKC0.narrow (fun _ h => Or.inl h)
  have hS : va_S (fun q => q ∈ L) s.heap s.heap [] := va_S.rf
  have hx := B.exec
  have hb := B.bytes
  have hr := B.returns
  have hts := atoms_spec (ws := wsL_order) B.pre
  have hown : s.vm.findClass RL = some m.cls := findClass_of_methodNamed B.named
  have hlocks := B.notSynchronized
  have hT := vx_table (x := yL_order) B (hts _ List.mem_cons_self)
  have hl := lv_entry ([.ref ob, .int x1, .int x2, .ref out]) (n := 5) (Nat.le_of_ble_eq_true rfl)
  rw [lg_entry_eq]
  generalize (lg_sl ([.ref ob, .int x1, .int x2, .ref out]) ++ List.replicate (5 - (lg_sl ([.ref ob, .int x1, .int x2, .ref out])).length) Slot.unset).toArray = ls at hl ⊢
  have hl : lv_has ls 5 [(0, .ref ob), (1, .int x1), (2, .int x2), (3, .ref out)] := hl
  refine lv_aload_n hx hb dL_order_0 rfl (lv_at hl 3 rfl) ?_
  refine lv_iconst (v := 0) hx hb dL_order_1 (by decide) ?_
  refine lv_aload_n hx hb dL_order_2 rfl (lv_at hl 0 rfl) ?_
  refine lv_iload_n hx hb dL_order_3 rfl (lv_at hl 1 rfl) ?_
  refine lv_iload_n hx hb dL_order_4 rfl (lv_at hl 2 rfl) ?_
  refine hr_V (b := ob) (As := [.int x1, .int x2]) (rest := [.int (0 : Int32), .ref out]) ⟨hx, hb, hml, hown, hts⟩ (c_X2_order_s l hfl D tys ad L g ob arr nd made mvs twi tna fa i nlo nhi nv nst nhs nls ngs x1 x2 hi hL_ob hL_arr hL_nd hg_ob hg_arr hg_nd htN hia hfa hia2 hfa2) (cwV 2 hts gL_order_X2_order rfl rfl rfl hd_X2_order ⟨Nat.le_of_ble_eq_true rfl, Nat.le_of_ble_eq_true rfl⟩) (pg_recv hK hP hL_ob hg_ob rfl) (fun U hU hvm => WM hP hK hD hKC0 hTC hS hU hvm) hXN hS (fun _ h => h) rfl hl.1 rfl (lv_room (Nat.le_of_ble_eq_true rfl)) dL_order_5 ⟨Nat.le_of_ble_eq_true rfl, Nat.le_of_ble_eq_true rfl⟩ (fun E ce q9 H locs hxe hP hD hS hce hcv hcl => ?_) (fun hc0 => ?_)
  · rcases hxe with ⟨hc, rfl⟩ | ⟨hc, rfl⟩ | ⟨hc, rfl⟩
    · refine vx_catch (own := RL) (name := "java/util/NoSuchElementException") (E := nsN) hown [] ⟨0, 10, 13, 21⟩ [] (hT.trans rfl) (fun _ h => nomatch h) (by decide) (by decide) (hts (.classLink RL 21 "java/util/NoSuchElementException") (by decide +kernel)) (nw_use (w := .castable "java/util/NoSuchElementException" "java/util/NoSuchElementException") rfl (hXN.2 _ (by decide +kernel))) hce hcv hcl ?_
      refine lv_astore (lv' := [(4, .ref q9), (0, .ref ob), (1, .int x1), (2, .int x2), (3, .ref out)]) hx hb dL_order_13 hl (by decide) rfl (fun ls hl => ?_)
      refine lv_iconst (v := 1) hx hb dL_order_15 (by decide) ?_
      exact W.widen (k := 2) (n := 12) (Nat.le_of_ble_eq_true rfl) (Nat.le_of_ble_eq_true rfl) (W.iret hx hb hr (fun t ht hW => ⟨by rw [hc]; rfl, ⟨g, WM hP hK hD hKC0 hTC hS ht hW.alike, ⟨fun z => absurd z (by rw [hc]; decide), fun _ _ => rfl⟩⟩, hS.F ht⟩) (fun q h => hS.2.2 q h) dL_order_16)
    · exact absurd hc (nc2_X2_order_s _ _ _ _ _ _ _ _ _ _ _ _ _ _ _)
    · exact absurd hc (nc3_X2_order_s _ _ _ _ _ _ _ _ _ _ _ _ _ _ _)
  · refine W.eq (g2 := F0 m 8 ls [.int ((fX2_order_s made mvs twi tna fa i nlo nhi nv nst nhs nls ngs x1 x2).2), .int (0 : Int32), .ref out]) rfl ?_
    have hr9 : ∀ q : Nat, g q = g q := fun _ => rfl
    refine lv_i2l hx hb dL_order_8 rfl ?_
    refine pg_last hx hb hK hP hD hS 0 hL_out hg_out htJ (by unfold vp_in; decide) dL_order_9 (fun H locs hP hD hS => ?_)
    obtain ⟨g1, eg1⟩ : ∃ z : Nat → va_E, z = va_up g out (.inl (cyJ, 1, .inr (.inl (vp_updL fo (0 : Int32).toNatClampNeg (((fX2_order_s made mvs twi tna fa i nlo nhi nv nst nhs nls ngs x1 x2).2).toInt64))))) := ⟨_, rfl⟩
    have hP : va_P D vwCl (va_pl L g1) H := by rw [eg1]; exact hP
    have hD : va_D (fun q => q ∈ L) (va_pl L g1) := by rw [eg1]; exact hD
    have hg_out : g1 out = .inl (cyJ, 1, .inr (.inl (vp_updL fo (0 : Int32).toNatClampNeg (((fX2_order_s made mvs twi tna fa i nlo nhi nv nst nhs nls ngs x1 x2).2).toInt64)))) := by rw [eg1]; exact va_up_self _ _ _
    have hr8 : ∀ q : Nat, q ≠ out → g1 q = g q := fun q h_out => (congrFun eg1 q).trans ((va_up_ne _ _ h_out).trans (hr9 q ))
    refine lv_goto (tgt := 17) hx hb dL_order_10 (by decide) ?_
    refine lv_iconst (v := 0) hx hb dL_order_17 (by decide) ?_
    exact W.widen (k := 2) (n := 12) (Nat.le_of_ble_eq_true rfl) (Nat.le_of_ble_eq_true rfl) (W.iret hx hb hr (fun t ht hW => ⟨by rw [hc0]; rfl, ⟨g1, WM hP hK hD hKC0 hTC hS ht hW.alike, ⟨fun _ => ⟨hg_out, hr8⟩, fun z => absurd hc0 z⟩⟩, hS.F ht⟩) (fun q h => hS.2.2 q h) dL_order_18)
theorem nc1_X2_tally (made : Int32) (mvs : Int32) (twi : Int64) (tna : Int32) (x1 : Int32) (x2 : Int32) (x3 : Int64) : ¬ (fX2_tally made mvs twi tna x1 x2 x3).1 = 1 := by
  unfold fX2_tally
  try dsimp only
  repeat' split
  all_goals first | (simp; done) | (have h9 := nf_code i x2; simp only []; omega) | omega
theorem nc3_X2_tally (made : Int32) (mvs : Int32) (twi : Int64) (tna : Int32) (x1 : Int32) (x2 : Int32) (x3 : Int64) : ¬ (fX2_tally made mvs twi tna x1 x2 x3).1 = 3 := by
  unfold fX2_tally
  try dsimp only
  repeat' split
  all_goals first | (simp; done) | (have h9 := nf_code i x2; simp only []; omega) | omega
theorem hd_L_tally : yL_tally.cls ≠ "java/lang/invoke/MethodHandle" ∧ yL_tally.cls ≠ "java/lang/invoke/VarHandle" ∧ (parseMethodDescriptor yL_tally.desc).map (fun d => d.parameters.length) = some 5 := by decide +kernel
set_option maxHeartbeats 1000000 in
set_option maxRecDepth 100000 in
theorem c_L_tally (l : Launch) (hfl : l.stackTraces = false) {cyJ : ClassId} (D : va_G) (tys : List (ClassId × FieldType)) (ad : Nat → Nat) (L : List Nat) (g : Nat → va_E) (ob arr out : Nat) (made : Int32) (mvs : Int32) (twi : Int64) (tna : Int32) (x1 : Int32) (x2 : Int32) (x3 : Int64) (fo : Nat → Int64) (hL_ob : ob ∈ L) (hg_ob : g ob = .inr (2, [.ref arr, .int made, .int mvs, .long twi, .int tna])) (hL_out : out ∈ L) (hg_out : g out = .inl (cyJ, 1, .inr (.inl fo))) (htJ : tys[0]? = some (cyJ, .long)) (ne_out_ob : out ≠ ob) (ne_ob_out : ob ≠ out) : Met l yL_tally wsL_tally ({ frames := 7, cells := 1, slots := 6, locals := 106 }) (PW D tys ad L g [.ref ob, .int x1, .int x2, .long x3, .ref out]) (QE D tys ad L (some (.int (nI ((((fX2_tally made mvs twi tna x1 x2 x3).1) - 1))))) (fun g1 => (((fX2_tally made mvs twi tna x1 x2 x3).1) = 0 → g1 ob = .inr (2, [.ref arr, .int made, .int mvs, .long ((fX2_tally made mvs twi tna x1 x2 x3).2.2.1), .int ((fX2_tally made mvs twi tna x1 x2 x3).2.2.2)]) ∧ g1 out = .inl (cyJ, 1, .inr (.inl (vp_updL fo (0 : Int32).toNatClampNeg ((fX2_tally made mvs twi tna x1 x2 x3).2.1)))) ∧ ∀ q : Nat, q ≠ ob → q ≠ out → g1 q = g q) ∧ (¬ ((fX2_tally made mvs twi tna x1 x2 x3).1) = 0 → ∀ q : Nat, g1 q = g q))) 1 6 (fun q => q ∈ L) := by
  refine va_MetW (cc := cL_tally) (maxL := 7) (ret := some .int) (hh := [(0, 11, 14, 13)]) (by decide) rfl ?_
  intro p e s m args below meth c s₁ B hml hv
  obtain ⟨rfl, ⟨hP, hK, hD0, hKC0, hTC⟩, hXN⟩ := hv
  have hD : va_D (fun q => q ∈ L) (va_pl L g) := we_D (fun _ h => h) hD0
  have hKC : KC ad (fun q => q ∈ L) s s.heap := hKC0.narrow (fun _ h => Or.inl h)
  have hS : va_S (fun q => q ∈ L) s.heap s.heap [] := va_S.rf
  have hx := B.exec
  have hb := B.bytes
  have hr := B.returns
  have hts := atoms_spec (ws := wsL_tally) B.pre
  have hown : s.vm.findClass RL = some m.cls := findClass_of_methodNamed B.named
  have hlocks := B.notSynchronized
  have hT := vx_table (x := yL_tally) B (hts _ List.mem_cons_self)
  have hl := lv_entry ([.ref ob, .int x1, .int x2, .long x3, .ref out]) (n := 7) (Nat.le_of_ble_eq_true rfl)
  rw [lg_entry_eq]
  generalize (lg_sl ([.ref ob, .int x1, .int x2, .long x3, .ref out]) ++ List.replicate (7 - (lg_sl ([.ref ob, .int x1, .int x2, .long x3, .ref out])).length) Slot.unset).toArray = ls at hl ⊢
  have hl : lv_has ls 7 [(0, .ref ob), (1, .int x1), (2, .int x2), (3, .long x3), (5, .ref out)] := hl
  refine lv_aload hx hb dL_tally_0 (lv_at hl 4 rfl) ?_
  refine lv_iconst (v := 0) hx hb dL_tally_2 (by decide) ?_
  refine lv_aload_n hx hb dL_tally_3 rfl (lv_at hl 0 rfl) ?_
  refine lv_iload_n hx hb dL_tally_4 rfl (lv_at hl 1 rfl) ?_
  refine lv_iload_n hx hb dL_tally_5 rfl (lv_at hl 2 rfl) ?_
  refine lv_lload_n hx hb dL_tally_6 rfl (lv_at hl 3 rfl) ?_
  refine hc_V (b := ob) (As := [.int x1, .int x2, .long x3]) (rest := [.int (0 : Int32), .ref out]) ⟨hx, hb, hml, hown, hts⟩ (c_X2_tally l hfl D tys ad L g ob arr made mvs twi tna x1 x2 x3 hL_ob hg_ob) (cwV 3 hts gL_tally_X2_tally rfl rfl rfl hd_X2_tally ⟨Nat.le_of_ble_eq_true rfl, Nat.le_of_ble_eq_true rfl⟩) (pg_recv hK hP hL_ob hg_ob rfl) (fun U hU hvm => WM hP hK hD hKC0 hTC hS hU hvm) hXN hS (fun _ h => h) rfl hl.1 rfl (lv_room (Nat.le_of_ble_eq_true rfl)) dL_tally_7 ⟨Nat.le_of_ble_eq_true rfl, Nat.le_of_ble_eq_true rfl⟩ (fun E ce q9 H locs hxe hP hD hS hce hcv hcl => ?_) (fun hc0 => ?_)
  · rcases hxe with ⟨hc, rfl⟩ | ⟨hc, rfl⟩ | ⟨hc, rfl⟩
    · exact absurd hc (nc1_X2_tally _ _ _ _ _ _ _)
    · refine vx_catch (own := RL) (name := "java/lang/IllegalArgumentException") (E := ieN) hown [] ⟨0, 11, 14, 13⟩ [] (hT.trans rfl) (fun _ h => nomatch h) (by decide) (by decide) (hts (.classLink RL 13 "java/lang/IllegalArgumentException") (by decide +kernel)) (nw_use (w := .castable "java/lang/IllegalArgumentException" "java/lang/IllegalArgumentException") rfl (hXN.2 _ (by decide +kernel))) hce hcv hcl ?_
      refine lv_astore (lv' := [(6, .ref q9), (0, .ref ob), (1, .int x1), (2, .int x2), (3, .long x3), (5, .ref out)]) hx hb dL_tally_14 hl (by decide) rfl (fun ls hl => ?_)
      refine lv_iconst (v := 1) hx hb dL_tally_16 (by decide) ?_
      exact W.widen (k := 1) (n := 6) (Nat.le_of_ble_eq_true rfl) (Nat.le_of_ble_eq_true rfl) (W.iret hx hb hr (fun t ht hW => ⟨by rw [hc]; rfl, ⟨g, WM hP hK hD hKC0 hTC hS ht hW.alike, ⟨fun z => absurd z (by rw [hc]; decide), fun _ _ => rfl⟩⟩, hS.F ht⟩) (fun q h => hS.2.2 q h) dL_tally_17)
    · exact absurd hc (nc3_X2_tally _ _ _ _ _ _ _)
  · intro g1 H locs hp9 hP hD hS
    refine W.eq (g2 := F0 m 10 ls [.long ((fX2_tally made mvs twi tna x1 x2 x3).2.1), .int (0 : Int32), .ref out]) rfl ?_
    obtain ⟨hn9_ob, hr9⟩ := hp9
    have hg_ob : g1 ob = .inr (2, [.ref arr, .int made, .int mvs, .long ((fX2_tally made mvs twi tna x1 x2 x3).2.2.1), .int ((fX2_tally made mvs twi tna x1 x2 x3).2.2.2)]) := hn9_ob
    have hg_out : g1 out = .inl (cyJ, 1, .inr (.inl fo)) := (hr9 out ne_out_ob).trans hg_out
    refine pg_last hx hb hK hP hD hS 0 hL_out hg_out htJ (by unfold vp_in; decide) dL_tally_10 (fun H locs hP hD hS => ?_)
    obtain ⟨g2, eg2⟩ : ∃ z : Nat → va_E, z = va_up g1 out (.inl (cyJ, 1, .inr (.inl (vp_updL fo (0 : Int32).toNatClampNeg ((fX2_tally made mvs twi tna x1 x2 x3).2.1))))) := ⟨_, rfl⟩
    have hP : va_P D vwCl (va_pl L g2) H := by rw [eg2]; exact hP
    have hD : va_D (fun q => q ∈ L) (va_pl L g2) := by rw [eg2]; exact hD
    have hg_out : g2 out = .inl (cyJ, 1, .inr (.inl (vp_updL fo (0 : Int32).toNatClampNeg ((fX2_tally made mvs twi tna x1 x2 x3).2.1)))) := by rw [eg2]; exact va_up_self _ _ _
    have hg_ob : g2 ob = .inr (2, [.ref arr, .int made, .int mvs, .long ((fX2_tally made mvs twi tna x1 x2 x3).2.2.1), .int ((fX2_tally made mvs twi tna x1 x2 x3).2.2.2)]) := (congrFun eg2 ob).trans ((va_up_ne _ _ ne_ob_out).trans hg_ob)
    have hr8 : ∀ q : Nat, q ≠ ob → q ≠ out → g2 q = g q := fun q h_ob h_out => (congrFun eg2 q).trans ((va_up_ne _ _ h_out).trans (hr9 q h_ob))
    refine lv_goto (tgt := 18) hx hb dL_tally_11 (by decide) ?_
    refine lv_iconst (v := 0) hx hb dL_tally_18 (by decide) ?_
    exact W.widen (k := 1) (n := 6) (Nat.le_of_ble_eq_true rfl) (Nat.le_of_ble_eq_true rfl) (W.iret hx hb hr (fun t ht hW => ⟨by rw [hc0]; rfl, ⟨g2, WM hP hK hD hKC0 hTC hS ht hW.alike, ⟨fun _ => ⟨hg_ob, hg_out, hr8⟩, fun z => absurd hc0 z⟩⟩, hS.F ht⟩) (fun q h => hS.2.2 q h) dL_tally_19)
