/-! the law's turns (printed by gen22e.py) -/
set_option maxHeartbeats 1000000 in
set_option maxRecDepth 100000 in
theorem t_put {p : Program} {l : Launch} {e : Env} {s : State} {m : MethodId} {below : List Frame} {meth : Method} {c : Code} {b Lx : Nat} {xs : Nat → Int32} {D : va_G} {tys : List (ClassId × FieldType)} {ad : Nat → Nat} {cyJ cyZ cyN : ClassId} {ob arr out om fz cj : Nat} {L : List Nat} {g : Nat → va_E} {H : Heap} {locs : List Loc} {N : Nat} {kd na : Nat → Nat} {fa : Nat → Option Nat} {ff : Nat → Int32} {cv : Nat → Int64} {mvs tna kt : Int32} {twi : Int64} {iv : Int32} {cells slots : Nat} {Q : State → Prop} {ls : Array Slot} (C : LC p l s m meth c b Lx xs D tys ad cyJ cyZ cyN) (w : LW s D ad cyJ cyZ cyN ob arr out om fz cj L g H locs N kd na fa ff cv mvs tna kt twi) (hl : lv_has ls 8 [(0, .ref b), (1, .ref ob), (2, .ref om), (3, .ref out), (4, .int iv)]) (hin : ∀ k : Int32, (0 ≤ k ∧ k ≤ 5) → vp_in (iv + k) Lx) (hc : cells + 3 ≤ room_1.cells ∧ slots + 20 ≤ room_1.slots) (nx : NX p l e s m below meth c b D ad cyJ cyZ cyN ob arr out om fz cj iv (cells + 3) (slots + 20) Q) : W p l e room_1 s m #[Value.ref b] below meth c H locs cells slots Q (F0 m 268 ls []) := by
  have hx := C.hx
  have hb := C.hb
  have hbA : ¬ (fun q : Nat => s.heap.size ≤ q) b := Nat.not_le.mpr C.hbl
  have in1 := hin 1 (by decide)
  obtain ⟨a1, ea1⟩ : ∃ z : Int32, z = xs (iv + 1).toNatClampNeg := ⟨_, rfl⟩
  have in2 := hin 2 (by decide)
  obtain ⟨a2, ea2⟩ : ∃ z : Int32, z = xs (iv + 2).toNatClampNeg := ⟨_, rfl⟩
  have in3 := hin 3 (by decide)
  obtain ⟨a3, ea3⟩ : ∃ z : Int32, z = xs (iv + 3).toNatClampNeg := ⟨_, rfl⟩
  refine lv_aload_n hx hb dL_law_268 rfl (lv_at hl 1 rfl) ?_
  refine lv_aload_n hx hb dL_law_269 rfl (lv_at hl 0 rfl) ?_
  refine lv_iload hx hb dL_law_270 (lv_at hl 4 rfl) ?_
  refine lv_iconst (v := 1) hx hb dL_law_272 (by decide) ?_
  refine lv_iadd hx hb dL_law_273 ?_
  refine va_sld hx hb C.hX C.hbl hbA w.hS in1 dL_law_274 ?_
  rw [← ea1]
  refine lv_aload_n hx hb dL_law_275 rfl (lv_at hl 0 rfl) ?_
  refine lv_iload hx hb dL_law_276 (lv_at hl 4 rfl) ?_
  refine lv_iconst (v := 2) hx hb dL_law_278 (by decide) ?_
  refine lv_iadd hx hb dL_law_279 ?_
  refine va_sld hx hb C.hX C.hbl hbA w.hS in2 dL_law_280 ?_
  rw [← ea2]
  refine lv_i2l hx hb dL_law_281 rfl ?_
  refine lv_bipush (v := 32) hx hb dL_law_282 (by decide) ?_
  refine lv_lshl hx hb dL_law_284 rfl ?_
  refine lv_aload_n hx hb dL_law_285 rfl (lv_at hl 0 rfl) ?_
  refine lv_iload hx hb dL_law_286 (lv_at hl 4 rfl) ?_
  refine lv_iconst (v := 3) hx hb dL_law_288 (by decide) ?_
  refine lv_iadd hx hb dL_law_289 ?_
  refine va_sld hx hb C.hX C.hbl hbA w.hS in3 dL_law_290 ?_
  rw [← ea3]
  refine lv_i2l hx hb dL_law_291 rfl ?_
  refine lv_ldc2 (v := 4294967295) hx hb C.hown (C.hts (.constantLong RL 63 4294967295) (by decide +kernel)) dL_law_292 ?_
  refine lv_land hx hb dL_law_295 ?_
  refine lv_lor hx hb dL_law_296 ?_
  refine lv_aload_n hx hb dL_law_297 rfl (lv_at hl 3 rfl) ?_
  obtain ⟨fo, hO⟩ := w.hO
  have hu := u_put l C.hfl w.I w.hB hO C.htN C.htJ kt a1 (lJ a2 a3) (D := D) (om := om) (fz := fz) (cj := cj)
  obtain ⟨M, eM⟩ : ∃ z, z = fX3_put (nI N) mvs tna kt twi ff cv a1 (lJ a2 a3) := ⟨_, rfl⟩
  rw [← eM] at hu
  refine hu_W (As := [.ref ob, .int a1, .long (lJ a2 a3), .ref out]) (rest := []) ⟨hx, hb, C.hml, C.hown, C.hts⟩ hu (fun rm mc ms q1 q2 q3 q4 => vx_cwSW 4 C.hts gL_law_L_put rfl q1 q2 hd_L_put ⟨Nat.le_trans (Nat.succ_le_succ q3) (Nat.le_of_ble_eq_true rfl), Nat.le_trans (Nat.add_le_add_left q4 _) (Nat.le_of_ble_eq_true rfl)⟩) (LW.ww C w.hP w.hD w.hS w.hLA) C.hXN w.hS w.hLA rfl hl.1 rfl (lv_room (Nat.le_of_ble_eq_true rfl)) dL_law_298 hc (fun g1 H1 locs1 hp hP hD hS => ?_)
  refine lv_istore (lv' := [(5, .int M.2.2.2), (0, .ref b), (1, .ref ob), (2, .ref om), (3, .ref out), (4, .int iv)]) hx hb dL_law_301 hl (by decide) rfl (fun ls hl => ?_)
  refine lv_aload_n hx hb dL_law_303 rfl (lv_at hl 3 rfl) ?_
  refine lv_aload_n hx hb dL_law_304 rfl (lv_at hl 1 rfl) ?_
  refine lv_iload hx hb dL_law_305 (lv_at hl 5 rfl) ?_
  refine lv_iconst (v := 1) hx hb dL_law_307 (by decide) ?_
  refine lv_iadd hx hb dL_law_308 ?_
  refine va_sld hx hb C.hX C.hbl hbA hS in1 dL_law_309 ?_
  rw [← ea1]
  refine lv_aload_n hx hb dL_law_310 rfl (lv_at hl 1 rfl) ?_
  refine lv_iload hx hb dL_law_311 (lv_at hl 5 rfl) ?_
  refine lv_iconst (v := 2) hx hb dL_law_313 (by decide) ?_
  refine lv_iadd hx hb dL_law_314 ?_
  refine va_sld hx hb C.hX C.hbl hbA hS in2 dL_law_315 ?_
  rw [← ea2]
  refine lv_i2l hx hb dL_law_316 rfl ?_
  refine lv_bipush (v := 32) hx hb dL_law_317 (by decide) ?_
  refine lv_lshl hx hb dL_law_319 rfl ?_
  refine lv_aload_n hx hb dL_law_320 rfl (lv_at hl 1 rfl) ?_
  refine lv_iload hx hb dL_law_321 (lv_at hl 5 rfl) ?_
  refine lv_iconst (v := 3) hx hb dL_law_323 (by decide) ?_
  refine lv_iadd hx hb dL_law_324 ?_
  refine va_sld hx hb C.hX C.hbl hbA hS in3 dL_law_325 ?_
  rw [← ea3]
  refine lv_i2l hx hb dL_law_326 rfl ?_
  refine lv_ldc2 (v := 4294967295) hx hb C.hown (C.hts (.constantLong RL 63 4294967295) (by decide +kernel)) dL_law_327 ?_
  refine lv_land hx hb dL_law_330 ?_
  refine lv_lor hx hb dL_law_331 ?_
  have hM1 := ms_of w.hM hp.2.2.2.1 hp.2.2.2.2.1 hp.2.2.2.2.2
  have hm := c_X3_put l D tys ad L g1 om fz cj (nI N) mvs tna kt twi ff cv a1 (lJ a2 a3) w.I.L_om w.I.L_fz w.I.L_cj hM1.1 hM1.2.1 hM1.2.2 w.I.om_cj w.I.om_fz.symm w.I.fz_cj w.I.om_cj.symm C.htJ C.htZ w.I.kn 
  rw [← eM] at hm
  refine mc_V (b := om) (As := [.int a1, .long (lJ a2 a3)]) (rest := []) ⟨hx, hb, C.hml, C.hown, C.hts⟩ hm (cwV 2 C.hts gL_law_X3_put rfl rfl rfl hd_X3_put ⟨Nat.le_of_ble_eq_true rfl, Nat.le_of_ble_eq_true rfl⟩) (pg_recv C.hK hP w.I.L_om hM1.1 rfl) (LW.ww C hP hD hS w.hLA) C.hXN hS w.hLA rfl hl.1 rfl (lv_room (Nat.le_of_ble_eq_true rfl)) dL_law_332 hc (fun g2 H2 locs2 hp2 hP hD hS => ?_)
  have hM2 := mp_2 (w.I.cells hp.2.1) hM1 hp2.1 hp2.2.1 hp2.2.2
  have w2 := w.next hp hM2 (fun q q1 q2 q3 => hp2.2.2 q q1 q3) hP hD hS
  refine lv_lstore (lv' := [(6, .long M.1), (5, .int M.2.2.2), (0, .ref b), (1, .ref ob), (2, .ref om), (3, .ref out), (4, .int iv)]) hx hb dL_law_335 hl (by decide) rfl (fun ls hl => ?_)
  refine lv_aload_n hx hb dL_law_337 rfl (lv_at hl 4 rfl) ?_
  refine rc_V (b := om) (r := .int M.2.2.2) (As := []) (rest := []) ⟨hx, hb, C.hml, C.hown, C.hts⟩ (c_X3_thrown l D tys ad L g2 om fz cj (nI N) M.2.2.1 tna M.2.2.2 twi ff M.2.1 w.I.L_om w.I.L_fz w.I.L_cj hM2.1 hM2.2.1 hM2.2.2 C.htJ C.htZ) (cwV 0 C.hts gL_law_X3_thrown rfl rfl rfl hd_X3_thrown ⟨Nat.le_of_ble_eq_true rfl, Nat.le_of_ble_eq_true rfl⟩) (pg_recv C.hK hP w.I.L_om hM2.1 rfl) (LW.ww C hP hD hS w.hLA) C.hXN rfl hl.1 rfl (lv_room (Nat.le_of_ble_eq_true rfl)) dL_law_338 hc ?_
  refine lv_iload hx hb dL_law_341 (lv_at hl 1 rfl) ?_
  refine lv_icmp_eq (tgt := 348) hx hb dL_law_343 (by decide) (fun _ => ?_) (fun cn => absurd rfl cn)
  refine lv_iload hx hb dL_law_348 (lv_at hl 1 rfl) ?_
  refine lv_if_ne (tgt := 364) hx hb dL_law_350 (by decide) (fun c0 => ?_) (fun c0 => ?_)
  case refine_1 =>
    refine lv_goto (tgt := 1208) hx hb dL_law_364 (by decide) ?_
    exact nx _ _ _ _ _ _ _ _ _ _ _ _ _ _ _ w2 (lv_sub hl [2, 3, 4, 5, 6] rfl)
  obtain ⟨fo2, ho2, hr2⟩ := hp.2.2.1
  have hg_out : g2 out = .inl (cyJ, 1, .inr (.inl fo2)) := (hp2.2.2 out w.I.out_om w.I.out_cj).trans ho2
  refine lv_aload_n hx hb dL_law_353 rfl (lv_at hl 5 rfl) ?_
  refine lv_iconst (v := 0) hx hb dL_law_354 (by decide) ?_
  refine pg_lald hx hb C.hK hP 0 w.I.L_out hg_out C.htJ (by unfold vp_in; decide) dL_law_355 ?_
  refine lv_lload hx hb dL_law_356 (lv_at hl 0 rfl) ?_
  refine pl_eq (tgt := 364) hx hb dL_law_358 dL_law_359 (by decide) (fun _ => ?_) (fun cn => absurd (hr2 c0) cn)
  refine lv_goto (tgt := 1208) hx hb dL_law_364 (by decide) ?_
  exact nx _ _ _ _ _ _ _ _ _ _ _ _ _ _ _ w2 (lv_sub hl [2, 3, 4, 5, 6] rfl)
set_option maxHeartbeats 1000000 in
set_option maxRecDepth 100000 in
theorem t_turn {p : Program} {l : Launch} {e : Env} {s : State} {m : MethodId} {below : List Frame} {meth : Method} {c : Code} {b Lx : Nat} {xs : Nat → Int32} {D : va_G} {tys : List (ClassId × FieldType)} {ad : Nat → Nat} {cyJ cyZ cyN : ClassId} {ob arr out om fz cj : Nat} {L : List Nat} {g : Nat → va_E} {H : Heap} {locs : List Loc} {N : Nat} {kd na : Nat → Nat} {fa : Nat → Option Nat} {ff : Nat → Int32} {cv : Nat → Int64} {mvs tna kt : Int32} {twi : Int64} {iv : Int32} {cells slots : Nat} {Q : State → Prop} {ls : Array Slot} (C : LC p l s m meth c b Lx xs D tys ad cyJ cyZ cyN) (w : LW s D ad cyJ cyZ cyN ob arr out om fz cj L g H locs N kd na fa ff cv mvs tna kt twi) (hl : lv_has ls 8 [(0, .ref b), (1, .ref ob), (2, .ref om), (3, .ref out), (4, .int iv)]) (hin : ∀ k : Int32, (0 ≤ k ∧ k ≤ 5) → vp_in (iv + k) Lx) (hc : cells + 3 ≤ room_1.cells ∧ slots + 20 ≤ room_1.slots) (nx : NX p l e s m below meth c b D ad cyJ cyZ cyN ob arr out om fz cj iv (cells + 3) (slots + 20) Q) : W p l e room_1 s m #[Value.ref b] below meth c H locs cells slots Q (F0 m 367 ls []) := by
  have hx := C.hx
  have hb := C.hb
  have hbA : ¬ (fun q : Nat => s.heap.size ≤ q) b := Nat.not_le.mpr C.hbl
  have in1 := hin 1 (by decide)
  obtain ⟨a1, ea1⟩ : ∃ z : Int32, z = xs (iv + 1).toNatClampNeg := ⟨_, rfl⟩
  have in2 := hin 2 (by decide)
  obtain ⟨a2, ea2⟩ : ∃ z : Int32, z = xs (iv + 2).toNatClampNeg := ⟨_, rfl⟩
  have in3 := hin 3 (by decide)
  obtain ⟨a3, ea3⟩ : ∃ z : Int32, z = xs (iv + 3).toNatClampNeg := ⟨_, rfl⟩
  refine lv_aload_n hx hb dL_law_367 rfl (lv_at hl 1 rfl) ?_
  refine lv_aload_n hx hb dL_law_368 rfl (lv_at hl 0 rfl) ?_
  refine lv_iload hx hb dL_law_369 (lv_at hl 4 rfl) ?_
  refine lv_iconst (v := 1) hx hb dL_law_371 (by decide) ?_
  refine lv_iadd hx hb dL_law_372 ?_
  refine va_sld hx hb C.hX C.hbl hbA w.hS in1 dL_law_373 ?_
  rw [← ea1]
  refine lv_aload_n hx hb dL_law_374 rfl (lv_at hl 0 rfl) ?_
  refine lv_iload hx hb dL_law_375 (lv_at hl 4 rfl) ?_
  refine lv_iconst (v := 2) hx hb dL_law_377 (by decide) ?_
  refine lv_iadd hx hb dL_law_378 ?_
  refine va_sld hx hb C.hX C.hbl hbA w.hS in2 dL_law_379 ?_
  rw [← ea2]
  refine lv_i2l hx hb dL_law_380 rfl ?_
  refine lv_bipush (v := 32) hx hb dL_law_381 (by decide) ?_
  refine lv_lshl hx hb dL_law_383 rfl ?_
  refine lv_aload_n hx hb dL_law_384 rfl (lv_at hl 0 rfl) ?_
  refine lv_iload hx hb dL_law_385 (lv_at hl 4 rfl) ?_
  refine lv_iconst (v := 3) hx hb dL_law_387 (by decide) ?_
  refine lv_iadd hx hb dL_law_388 ?_
  refine va_sld hx hb C.hX C.hbl hbA w.hS in3 dL_law_389 ?_
  rw [← ea3]
  refine lv_i2l hx hb dL_law_390 rfl ?_
  refine lv_ldc2 (v := 4294967295) hx hb C.hown (C.hts (.constantLong RL 63 4294967295) (by decide +kernel)) dL_law_391 ?_
  refine lv_land hx hb dL_law_394 ?_
  refine lv_lor hx hb dL_law_395 ?_
  refine lv_aload_n hx hb dL_law_396 rfl (lv_at hl 3 rfl) ?_
  obtain ⟨fo, hO⟩ := w.hO
  have hu := u_turn l C.hfl w.I w.hB hO C.htN C.htJ kt a1 (lJ a2 a3) (D := D) (om := om) (fz := fz) (cj := cj)
  obtain ⟨M, eM⟩ : ∃ z, z = fX3_turn (nI N) mvs tna kt twi ff cv a1 (lJ a2 a3) := ⟨_, rfl⟩
  rw [← eM] at hu
  refine hu_W (As := [.ref ob, .int a1, .long (lJ a2 a3), .ref out]) (rest := []) ⟨hx, hb, C.hml, C.hown, C.hts⟩ hu (fun rm mc ms q1 q2 q3 q4 => vx_cwSW 4 C.hts gL_law_L_turn rfl q1 q2 hd_L_turn ⟨Nat.le_trans (Nat.succ_le_succ q3) (Nat.le_of_ble_eq_true rfl), Nat.le_trans (Nat.add_le_add_left q4 _) (Nat.le_of_ble_eq_true rfl)⟩) (LW.ww C w.hP w.hD w.hS w.hLA) C.hXN w.hS w.hLA rfl hl.1 rfl (lv_room (Nat.le_of_ble_eq_true rfl)) dL_law_397 hc (fun g1 H1 locs1 hp hP hD hS => ?_)
  refine lv_istore (lv' := [(5, .int M.2.2.2), (0, .ref b), (1, .ref ob), (2, .ref om), (3, .ref out), (4, .int iv)]) hx hb dL_law_400 hl (by decide) rfl (fun ls hl => ?_)
  refine lv_aload_n hx hb dL_law_402 rfl (lv_at hl 3 rfl) ?_
  refine lv_aload_n hx hb dL_law_403 rfl (lv_at hl 1 rfl) ?_
  refine lv_iload hx hb dL_law_404 (lv_at hl 5 rfl) ?_
  refine lv_iconst (v := 1) hx hb dL_law_406 (by decide) ?_
  refine lv_iadd hx hb dL_law_407 ?_
  refine va_sld hx hb C.hX C.hbl hbA hS in1 dL_law_408 ?_
  rw [← ea1]
  refine lv_aload_n hx hb dL_law_409 rfl (lv_at hl 1 rfl) ?_
  refine lv_iload hx hb dL_law_410 (lv_at hl 5 rfl) ?_
  refine lv_iconst (v := 2) hx hb dL_law_412 (by decide) ?_
  refine lv_iadd hx hb dL_law_413 ?_
  refine va_sld hx hb C.hX C.hbl hbA hS in2 dL_law_414 ?_
  rw [← ea2]
  refine lv_i2l hx hb dL_law_415 rfl ?_
  refine lv_bipush (v := 32) hx hb dL_law_416 (by decide) ?_
  refine lv_lshl hx hb dL_law_418 rfl ?_
  refine lv_aload_n hx hb dL_law_419 rfl (lv_at hl 1 rfl) ?_
  refine lv_iload hx hb dL_law_420 (lv_at hl 5 rfl) ?_
  refine lv_iconst (v := 3) hx hb dL_law_422 (by decide) ?_
  refine lv_iadd hx hb dL_law_423 ?_
  refine va_sld hx hb C.hX C.hbl hbA hS in3 dL_law_424 ?_
  rw [← ea3]
  refine lv_i2l hx hb dL_law_425 rfl ?_
  refine lv_ldc2 (v := 4294967295) hx hb C.hown (C.hts (.constantLong RL 63 4294967295) (by decide +kernel)) dL_law_426 ?_
  refine lv_land hx hb dL_law_429 ?_
  refine lv_lor hx hb dL_law_430 ?_
  have hM1 := ms_of w.hM hp.2.2.2.1 hp.2.2.2.2.1 hp.2.2.2.2.2
  have hm := c_X3_turn l D tys ad L g1 om fz cj (nI N) mvs tna kt twi ff cv a1 (lJ a2 a3) w.I.L_om w.I.L_fz w.I.L_cj hM1.1 hM1.2.1 hM1.2.2 w.I.om_cj w.I.om_fz.symm w.I.fz_cj w.I.om_cj.symm C.htJ C.htZ w.I.kn (d_turn w.I mvs tna kt twi a1 (lJ a2 a3))
  rw [← eM] at hm
  refine mc_V (b := om) (As := [.int a1, .long (lJ a2 a3)]) (rest := []) ⟨hx, hb, C.hml, C.hown, C.hts⟩ hm (cwV 2 C.hts gL_law_X3_turn rfl rfl rfl hd_X3_turn ⟨Nat.le_of_ble_eq_true rfl, Nat.le_of_ble_eq_true rfl⟩) (pg_recv C.hK hP w.I.L_om hM1.1 rfl) (LW.ww C hP hD hS w.hLA) C.hXN hS w.hLA rfl hl.1 rfl (lv_room (Nat.le_of_ble_eq_true rfl)) dL_law_431 hc (fun g2 H2 locs2 hp2 hP hD hS => ?_)
  have hM2 := mp_2 (w.I.cells hp.2.1) hM1 hp2.1 hp2.2.1 hp2.2.2
  have w2 := w.next hp hM2 (fun q q1 q2 q3 => hp2.2.2 q q1 q3) hP hD hS
  refine lv_lstore (lv' := [(6, .long M.1), (5, .int M.2.2.2), (0, .ref b), (1, .ref ob), (2, .ref om), (3, .ref out), (4, .int iv)]) hx hb dL_law_434 hl (by decide) rfl (fun ls hl => ?_)
  refine lv_aload_n hx hb dL_law_436 rfl (lv_at hl 4 rfl) ?_
  refine rc_V (b := om) (r := .int M.2.2.2) (As := []) (rest := []) ⟨hx, hb, C.hml, C.hown, C.hts⟩ (c_X3_thrown l D tys ad L g2 om fz cj (nI N) M.2.2.1 tna M.2.2.2 twi ff M.2.1 w.I.L_om w.I.L_fz w.I.L_cj hM2.1 hM2.2.1 hM2.2.2 C.htJ C.htZ) (cwV 0 C.hts gL_law_X3_thrown rfl rfl rfl hd_X3_thrown ⟨Nat.le_of_ble_eq_true rfl, Nat.le_of_ble_eq_true rfl⟩) (pg_recv C.hK hP w.I.L_om hM2.1 rfl) (LW.ww C hP hD hS w.hLA) C.hXN rfl hl.1 rfl (lv_room (Nat.le_of_ble_eq_true rfl)) dL_law_437 hc ?_
  refine lv_iload hx hb dL_law_440 (lv_at hl 1 rfl) ?_
  refine lv_icmp_eq (tgt := 447) hx hb dL_law_442 (by decide) (fun _ => ?_) (fun cn => absurd rfl cn)
  refine lv_iload hx hb dL_law_447 (lv_at hl 1 rfl) ?_
  refine lv_if_ne (tgt := 463) hx hb dL_law_449 (by decide) (fun c0 => ?_) (fun c0 => ?_)
  case refine_1 =>
    refine lv_goto (tgt := 1208) hx hb dL_law_463 (by decide) ?_
    exact nx _ _ _ _ _ _ _ _ _ _ _ _ _ _ _ w2 (lv_sub hl [2, 3, 4, 5, 6] rfl)
  obtain ⟨fo2, ho2, hr2⟩ := hp.2.2.1
  have hg_out : g2 out = .inl (cyJ, 1, .inr (.inl fo2)) := (hp2.2.2 out w.I.out_om w.I.out_cj).trans ho2
  refine lv_aload_n hx hb dL_law_452 rfl (lv_at hl 5 rfl) ?_
  refine lv_iconst (v := 0) hx hb dL_law_453 (by decide) ?_
  refine pg_lald hx hb C.hK hP 0 w.I.L_out hg_out C.htJ (by unfold vp_in; decide) dL_law_454 ?_
  refine lv_lload hx hb dL_law_455 (lv_at hl 0 rfl) ?_
  refine pl_eq (tgt := 463) hx hb dL_law_457 dL_law_458 (by decide) (fun _ => ?_) (fun cn => absurd (hr2 c0) cn)
  refine lv_goto (tgt := 1208) hx hb dL_law_463 (by decide) ?_
  exact nx _ _ _ _ _ _ _ _ _ _ _ _ _ _ _ w2 (lv_sub hl [2, 3, 4, 5, 6] rfl)
set_option maxHeartbeats 1000000 in
set_option maxRecDepth 100000 in
theorem t_damp {p : Program} {l : Launch} {e : Env} {s : State} {m : MethodId} {below : List Frame} {meth : Method} {c : Code} {b Lx : Nat} {xs : Nat → Int32} {D : va_G} {tys : List (ClassId × FieldType)} {ad : Nat → Nat} {cyJ cyZ cyN : ClassId} {ob arr out om fz cj : Nat} {L : List Nat} {g : Nat → va_E} {H : Heap} {locs : List Loc} {N : Nat} {kd na : Nat → Nat} {fa : Nat → Option Nat} {ff : Nat → Int32} {cv : Nat → Int64} {mvs tna kt : Int32} {twi : Int64} {iv : Int32} {cells slots : Nat} {Q : State → Prop} {ls : Array Slot} (C : LC p l s m meth c b Lx xs D tys ad cyJ cyZ cyN) (w : LW s D ad cyJ cyZ cyN ob arr out om fz cj L g H locs N kd na fa ff cv mvs tna kt twi) (hl : lv_has ls 8 [(0, .ref b), (1, .ref ob), (2, .ref om), (3, .ref out), (4, .int iv)]) (hin : ∀ k : Int32, (0 ≤ k ∧ k ≤ 5) → vp_in (iv + k) Lx) (hc : cells + 3 ≤ room_1.cells ∧ slots + 20 ≤ room_1.slots) (nx : NX p l e s m below meth c b D ad cyJ cyZ cyN ob arr out om fz cj iv (cells + 3) (slots + 20) Q) : W p l e room_1 s m #[Value.ref b] below meth c H locs cells slots Q (F0 m 466 ls []) := by
  have hx := C.hx
  have hb := C.hb
  have hbA : ¬ (fun q : Nat => s.heap.size ≤ q) b := Nat.not_le.mpr C.hbl
  have in1 := hin 1 (by decide)
  obtain ⟨a1, ea1⟩ : ∃ z : Int32, z = xs (iv + 1).toNatClampNeg := ⟨_, rfl⟩
  have in2 := hin 2 (by decide)
  obtain ⟨a2, ea2⟩ : ∃ z : Int32, z = xs (iv + 2).toNatClampNeg := ⟨_, rfl⟩
  have in3 := hin 3 (by decide)
  obtain ⟨a3, ea3⟩ : ∃ z : Int32, z = xs (iv + 3).toNatClampNeg := ⟨_, rfl⟩
  refine lv_aload_n hx hb dL_law_466 rfl (lv_at hl 1 rfl) ?_
  refine lv_aload_n hx hb dL_law_467 rfl (lv_at hl 0 rfl) ?_
  refine lv_iload hx hb dL_law_468 (lv_at hl 4 rfl) ?_
  refine lv_iconst (v := 1) hx hb dL_law_470 (by decide) ?_
  refine lv_iadd hx hb dL_law_471 ?_
  refine va_sld hx hb C.hX C.hbl hbA w.hS in1 dL_law_472 ?_
  rw [← ea1]
  refine lv_aload_n hx hb dL_law_473 rfl (lv_at hl 0 rfl) ?_
  refine lv_iload hx hb dL_law_474 (lv_at hl 4 rfl) ?_
  refine lv_iconst (v := 2) hx hb dL_law_476 (by decide) ?_
  refine lv_iadd hx hb dL_law_477 ?_
  refine va_sld hx hb C.hX C.hbl hbA w.hS in2 dL_law_478 ?_
  rw [← ea2]
  refine lv_i2l hx hb dL_law_479 rfl ?_
  refine lv_bipush (v := 32) hx hb dL_law_480 (by decide) ?_
  refine lv_lshl hx hb dL_law_482 rfl ?_
  refine lv_aload_n hx hb dL_law_483 rfl (lv_at hl 0 rfl) ?_
  refine lv_iload hx hb dL_law_484 (lv_at hl 4 rfl) ?_
  refine lv_iconst (v := 3) hx hb dL_law_486 (by decide) ?_
  refine lv_iadd hx hb dL_law_487 ?_
  refine va_sld hx hb C.hX C.hbl hbA w.hS in3 dL_law_488 ?_
  rw [← ea3]
  refine lv_i2l hx hb dL_law_489 rfl ?_
  refine lv_ldc2 (v := 4294967295) hx hb C.hown (C.hts (.constantLong RL 63 4294967295) (by decide +kernel)) dL_law_490 ?_
  refine lv_land hx hb dL_law_493 ?_
  refine lv_lor hx hb dL_law_494 ?_
  refine lv_aload_n hx hb dL_law_495 rfl (lv_at hl 3 rfl) ?_
  obtain ⟨fo, hO⟩ := w.hO
  have hu := u_damp l C.hfl w.I w.hB hO C.htN C.htJ kt a1 (lJ a2 a3) (D := D) (om := om) (fz := fz) (cj := cj)
  obtain ⟨M, eM⟩ : ∃ z, z = fX3_damp (nI N) mvs tna kt twi ff cv a1 (lJ a2 a3) := ⟨_, rfl⟩
  rw [← eM] at hu
  refine hu_W (As := [.ref ob, .int a1, .long (lJ a2 a3), .ref out]) (rest := []) ⟨hx, hb, C.hml, C.hown, C.hts⟩ hu (fun rm mc ms q1 q2 q3 q4 => vx_cwSW 4 C.hts gL_law_L_damp rfl q1 q2 hd_L_damp ⟨Nat.le_trans (Nat.succ_le_succ q3) (Nat.le_of_ble_eq_true rfl), Nat.le_trans (Nat.add_le_add_left q4 _) (Nat.le_of_ble_eq_true rfl)⟩) (LW.ww C w.hP w.hD w.hS w.hLA) C.hXN w.hS w.hLA rfl hl.1 rfl (lv_room (Nat.le_of_ble_eq_true rfl)) dL_law_496 hc (fun g1 H1 locs1 hp hP hD hS => ?_)
  refine lv_istore (lv' := [(5, .int M.2.2), (0, .ref b), (1, .ref ob), (2, .ref om), (3, .ref out), (4, .int iv)]) hx hb dL_law_499 hl (by decide) rfl (fun ls hl => ?_)
  refine lv_aload_n hx hb dL_law_501 rfl (lv_at hl 3 rfl) ?_
  refine lv_aload_n hx hb dL_law_502 rfl (lv_at hl 1 rfl) ?_
  refine lv_iload hx hb dL_law_503 (lv_at hl 5 rfl) ?_
  refine lv_iconst (v := 1) hx hb dL_law_505 (by decide) ?_
  refine lv_iadd hx hb dL_law_506 ?_
  refine va_sld hx hb C.hX C.hbl hbA hS in1 dL_law_507 ?_
  rw [← ea1]
  refine lv_aload_n hx hb dL_law_508 rfl (lv_at hl 1 rfl) ?_
  refine lv_iload hx hb dL_law_509 (lv_at hl 5 rfl) ?_
  refine lv_iconst (v := 2) hx hb dL_law_511 (by decide) ?_
  refine lv_iadd hx hb dL_law_512 ?_
  refine va_sld hx hb C.hX C.hbl hbA hS in2 dL_law_513 ?_
  rw [← ea2]
  refine lv_i2l hx hb dL_law_514 rfl ?_
  refine lv_bipush (v := 32) hx hb dL_law_515 (by decide) ?_
  refine lv_lshl hx hb dL_law_517 rfl ?_
  refine lv_aload_n hx hb dL_law_518 rfl (lv_at hl 1 rfl) ?_
  refine lv_iload hx hb dL_law_519 (lv_at hl 5 rfl) ?_
  refine lv_iconst (v := 3) hx hb dL_law_521 (by decide) ?_
  refine lv_iadd hx hb dL_law_522 ?_
  refine va_sld hx hb C.hX C.hbl hbA hS in3 dL_law_523 ?_
  rw [← ea3]
  refine lv_i2l hx hb dL_law_524 rfl ?_
  refine lv_ldc2 (v := 4294967295) hx hb C.hown (C.hts (.constantLong RL 63 4294967295) (by decide +kernel)) dL_law_525 ?_
  refine lv_land hx hb dL_law_528 ?_
  refine lv_lor hx hb dL_law_529 ?_
  have hM1 := ms_of w.hM hp.2.2.2.1 hp.2.2.2.2.1 hp.2.2.2.2.2
  have hm := c_X3_damp l D tys ad L g1 om fz cj (nI N) mvs tna kt twi ff cv a1 (lJ a2 a3) w.I.L_om w.I.L_fz w.I.L_cj hM1.1 hM1.2.1 hM1.2.2 w.I.om_cj w.I.om_fz.symm w.I.fz_cj w.I.om_cj.symm C.htJ C.htZ w.I.kn 
  rw [← eM] at hm
  refine mc_V (b := om) (As := [.int a1, .long (lJ a2 a3)]) (rest := []) ⟨hx, hb, C.hml, C.hown, C.hts⟩ hm (cwV 2 C.hts gL_law_X3_damp rfl rfl rfl hd_X3_damp ⟨Nat.le_of_ble_eq_true rfl, Nat.le_of_ble_eq_true rfl⟩) (pg_recv C.hK hP w.I.L_om hM1.1 rfl) (LW.ww C hP hD hS w.hLA) C.hXN hS w.hLA rfl hl.1 rfl (lv_room (Nat.le_of_ble_eq_true rfl)) dL_law_530 hc (fun g2 H2 locs2 hp2 hP hD hS => ?_)
  have hM2 := mp_2 (w.I.cells hp.2.1) hM1 hp2.1 hp2.2.1 hp2.2.2
  have w2 := w.next hp hM2 (fun q q1 q2 q3 => hp2.2.2 q q1 q3) hP hD hS
  refine lv_lstore (lv' := [(6, .long M.1), (5, .int M.2.2), (0, .ref b), (1, .ref ob), (2, .ref om), (3, .ref out), (4, .int iv)]) hx hb dL_law_533 hl (by decide) rfl (fun ls hl => ?_)
  refine lv_aload_n hx hb dL_law_535 rfl (lv_at hl 4 rfl) ?_
  refine rc_V (b := om) (r := .int M.2.2) (As := []) (rest := []) ⟨hx, hb, C.hml, C.hown, C.hts⟩ (c_X3_thrown l D tys ad L g2 om fz cj (nI N) mvs tna M.2.2 twi ff M.2.1 w.I.L_om w.I.L_fz w.I.L_cj hM2.1 hM2.2.1 hM2.2.2 C.htJ C.htZ) (cwV 0 C.hts gL_law_X3_thrown rfl rfl rfl hd_X3_thrown ⟨Nat.le_of_ble_eq_true rfl, Nat.le_of_ble_eq_true rfl⟩) (pg_recv C.hK hP w.I.L_om hM2.1 rfl) (LW.ww C hP hD hS w.hLA) C.hXN rfl hl.1 rfl (lv_room (Nat.le_of_ble_eq_true rfl)) dL_law_536 hc ?_
  refine lv_iload hx hb dL_law_539 (lv_at hl 1 rfl) ?_
  refine lv_icmp_eq (tgt := 546) hx hb dL_law_541 (by decide) (fun _ => ?_) (fun cn => absurd rfl cn)
  refine lv_iload hx hb dL_law_546 (lv_at hl 1 rfl) ?_
  refine lv_if_ne (tgt := 562) hx hb dL_law_548 (by decide) (fun c0 => ?_) (fun c0 => ?_)
  case refine_1 =>
    refine lv_goto (tgt := 1208) hx hb dL_law_562 (by decide) ?_
    exact nx _ _ _ _ _ _ _ _ _ _ _ _ _ _ _ w2 (lv_sub hl [2, 3, 4, 5, 6] rfl)
  obtain ⟨fo2, ho2, hr2⟩ := hp.2.2.1
  have hg_out : g2 out = .inl (cyJ, 1, .inr (.inl fo2)) := (hp2.2.2 out w.I.out_om w.I.out_cj).trans ho2
  refine lv_aload_n hx hb dL_law_551 rfl (lv_at hl 5 rfl) ?_
  refine lv_iconst (v := 0) hx hb dL_law_552 (by decide) ?_
  refine pg_lald hx hb C.hK hP 0 w.I.L_out hg_out C.htJ (by unfold vp_in; decide) dL_law_553 ?_
  refine lv_lload hx hb dL_law_554 (lv_at hl 0 rfl) ?_
  refine pl_eq (tgt := 562) hx hb dL_law_556 dL_law_557 (by decide) (fun _ => ?_) (fun cn => absurd (hr2 c0) cn)
  refine lv_goto (tgt := 1208) hx hb dL_law_562 (by decide) ?_
  exact nx _ _ _ _ _ _ _ _ _ _ _ _ _ _ _ w2 (lv_sub hl [2, 3, 4, 5, 6] rfl)
set_option maxHeartbeats 1000000 in
set_option maxRecDepth 100000 in
theorem t_pull {p : Program} {l : Launch} {e : Env} {s : State} {m : MethodId} {below : List Frame} {meth : Method} {c : Code} {b Lx : Nat} {xs : Nat → Int32} {D : va_G} {tys : List (ClassId × FieldType)} {ad : Nat → Nat} {cyJ cyZ cyN : ClassId} {ob arr out om fz cj : Nat} {L : List Nat} {g : Nat → va_E} {H : Heap} {locs : List Loc} {N : Nat} {kd na : Nat → Nat} {fa : Nat → Option Nat} {ff : Nat → Int32} {cv : Nat → Int64} {mvs tna kt : Int32} {twi : Int64} {iv : Int32} {cells slots : Nat} {Q : State → Prop} {ls : Array Slot} (C : LC p l s m meth c b Lx xs D tys ad cyJ cyZ cyN) (w : LW s D ad cyJ cyZ cyN ob arr out om fz cj L g H locs N kd na fa ff cv mvs tna kt twi) (hl : lv_has ls 8 [(0, .ref b), (1, .ref ob), (2, .ref om), (3, .ref out), (4, .int iv)]) (hin : ∀ k : Int32, (0 ≤ k ∧ k ≤ 5) → vp_in (iv + k) Lx) (hc : cells + 3 ≤ room_1.cells ∧ slots + 20 ≤ room_1.slots) (nx : NX p l e s m below meth c b D ad cyJ cyZ cyN ob arr out om fz cj iv (cells + 3) (slots + 20) Q) : W p l e room_1 s m #[Value.ref b] below meth c H locs cells slots Q (F0 m 565 ls []) := by
  have hx := C.hx
  have hb := C.hb
  have hbA : ¬ (fun q : Nat => s.heap.size ≤ q) b := Nat.not_le.mpr C.hbl
  have in1 := hin 1 (by decide)
  obtain ⟨a1, ea1⟩ : ∃ z : Int32, z = xs (iv + 1).toNatClampNeg := ⟨_, rfl⟩
  have in2 := hin 2 (by decide)
  obtain ⟨a2, ea2⟩ : ∃ z : Int32, z = xs (iv + 2).toNatClampNeg := ⟨_, rfl⟩
  have in3 := hin 3 (by decide)
  obtain ⟨a3, ea3⟩ : ∃ z : Int32, z = xs (iv + 3).toNatClampNeg := ⟨_, rfl⟩
  refine lv_aload_n hx hb dL_law_565 rfl (lv_at hl 1 rfl) ?_
  refine lv_aload_n hx hb dL_law_566 rfl (lv_at hl 0 rfl) ?_
  refine lv_iload hx hb dL_law_567 (lv_at hl 4 rfl) ?_
  refine lv_iconst (v := 1) hx hb dL_law_569 (by decide) ?_
  refine lv_iadd hx hb dL_law_570 ?_
  refine va_sld hx hb C.hX C.hbl hbA w.hS in1 dL_law_571 ?_
  rw [← ea1]
  refine lv_aload_n hx hb dL_law_572 rfl (lv_at hl 0 rfl) ?_
  refine lv_iload hx hb dL_law_573 (lv_at hl 4 rfl) ?_
  refine lv_iconst (v := 2) hx hb dL_law_575 (by decide) ?_
  refine lv_iadd hx hb dL_law_576 ?_
  refine va_sld hx hb C.hX C.hbl hbA w.hS in2 dL_law_577 ?_
  rw [← ea2]
  refine lv_i2l hx hb dL_law_578 rfl ?_
  refine lv_bipush (v := 32) hx hb dL_law_579 (by decide) ?_
  refine lv_lshl hx hb dL_law_581 rfl ?_
  refine lv_aload_n hx hb dL_law_582 rfl (lv_at hl 0 rfl) ?_
  refine lv_iload hx hb dL_law_583 (lv_at hl 4 rfl) ?_
  refine lv_iconst (v := 3) hx hb dL_law_585 (by decide) ?_
  refine lv_iadd hx hb dL_law_586 ?_
  refine va_sld hx hb C.hX C.hbl hbA w.hS in3 dL_law_587 ?_
  rw [← ea3]
  refine lv_i2l hx hb dL_law_588 rfl ?_
  refine lv_ldc2 (v := 4294967295) hx hb C.hown (C.hts (.constantLong RL 63 4294967295) (by decide +kernel)) dL_law_589 ?_
  refine lv_land hx hb dL_law_592 ?_
  refine lv_lor hx hb dL_law_593 ?_
  refine lv_aload_n hx hb dL_law_594 rfl (lv_at hl 3 rfl) ?_
  obtain ⟨fo, hO⟩ := w.hO
  have hu := u_pull l C.hfl w.I w.hB hO C.htN C.htJ kt a1 (lJ a2 a3) (D := D) (om := om) (fz := fz) (cj := cj)
  obtain ⟨M, eM⟩ : ∃ z, z = fX3_pull (nI N) mvs tna kt twi ff cv a1 (lJ a2 a3) := ⟨_, rfl⟩
  rw [← eM] at hu
  refine hu_W (As := [.ref ob, .int a1, .long (lJ a2 a3), .ref out]) (rest := []) ⟨hx, hb, C.hml, C.hown, C.hts⟩ hu (fun rm mc ms q1 q2 q3 q4 => vx_cwSW 4 C.hts gL_law_L_pull rfl q1 q2 hd_L_pull ⟨Nat.le_trans (Nat.succ_le_succ q3) (Nat.le_of_ble_eq_true rfl), Nat.le_trans (Nat.add_le_add_left q4 _) (Nat.le_of_ble_eq_true rfl)⟩) (LW.ww C w.hP w.hD w.hS w.hLA) C.hXN w.hS w.hLA rfl hl.1 rfl (lv_room (Nat.le_of_ble_eq_true rfl)) dL_law_595 hc (fun g1 H1 locs1 hp hP hD hS => ?_)
  refine lv_istore (lv' := [(5, .int M.2.2.2), (0, .ref b), (1, .ref ob), (2, .ref om), (3, .ref out), (4, .int iv)]) hx hb dL_law_598 hl (by decide) rfl (fun ls hl => ?_)
  refine lv_aload_n hx hb dL_law_600 rfl (lv_at hl 3 rfl) ?_
  refine lv_aload_n hx hb dL_law_601 rfl (lv_at hl 1 rfl) ?_
  refine lv_iload hx hb dL_law_602 (lv_at hl 5 rfl) ?_
  refine lv_iconst (v := 1) hx hb dL_law_604 (by decide) ?_
  refine lv_iadd hx hb dL_law_605 ?_
  refine va_sld hx hb C.hX C.hbl hbA hS in1 dL_law_606 ?_
  rw [← ea1]
  refine lv_aload_n hx hb dL_law_607 rfl (lv_at hl 1 rfl) ?_
  refine lv_iload hx hb dL_law_608 (lv_at hl 5 rfl) ?_
  refine lv_iconst (v := 2) hx hb dL_law_610 (by decide) ?_
  refine lv_iadd hx hb dL_law_611 ?_
  refine va_sld hx hb C.hX C.hbl hbA hS in2 dL_law_612 ?_
  rw [← ea2]
  refine lv_i2l hx hb dL_law_613 rfl ?_
  refine lv_bipush (v := 32) hx hb dL_law_614 (by decide) ?_
  refine lv_lshl hx hb dL_law_616 rfl ?_
  refine lv_aload_n hx hb dL_law_617 rfl (lv_at hl 1 rfl) ?_
  refine lv_iload hx hb dL_law_618 (lv_at hl 5 rfl) ?_
  refine lv_iconst (v := 3) hx hb dL_law_620 (by decide) ?_
  refine lv_iadd hx hb dL_law_621 ?_
  refine va_sld hx hb C.hX C.hbl hbA hS in3 dL_law_622 ?_
  rw [← ea3]
  refine lv_i2l hx hb dL_law_623 rfl ?_
  refine lv_ldc2 (v := 4294967295) hx hb C.hown (C.hts (.constantLong RL 63 4294967295) (by decide +kernel)) dL_law_624 ?_
  refine lv_land hx hb dL_law_627 ?_
  refine lv_lor hx hb dL_law_628 ?_
  have hM1 := ms_of w.hM hp.2.2.2.1 hp.2.2.2.2.1 hp.2.2.2.2.2
  have hm := c_X3_pull l D tys ad L g1 om fz cj (nI N) mvs tna kt twi ff cv a1 (lJ a2 a3) w.I.L_om w.I.L_fz w.I.L_cj hM1.1 hM1.2.1 hM1.2.2 w.I.om_cj w.I.om_fz.symm w.I.fz_cj w.I.om_cj.symm C.htJ C.htZ w.I.kn (d_pull1 w.I mvs tna kt twi a1 (lJ a2 a3)) (d_pull2 w.I mvs tna kt twi a1 (lJ a2 a3))
  rw [← eM] at hm
  refine mc_V (b := om) (As := [.int a1, .long (lJ a2 a3)]) (rest := []) ⟨hx, hb, C.hml, C.hown, C.hts⟩ hm (cwV 2 C.hts gL_law_X3_pull rfl rfl rfl hd_X3_pull ⟨Nat.le_of_ble_eq_true rfl, Nat.le_of_ble_eq_true rfl⟩) (pg_recv C.hK hP w.I.L_om hM1.1 rfl) (LW.ww C hP hD hS w.hLA) C.hXN hS w.hLA rfl hl.1 rfl (lv_room (Nat.le_of_ble_eq_true rfl)) dL_law_629 hc (fun g2 H2 locs2 hp2 hP hD hS => ?_)
  have hM2 := mp_2 (w.I.cells hp.2.1) hM1 hp2.1 hp2.2.1 hp2.2.2
  have w2 := w.next hp hM2 (fun q q1 q2 q3 => hp2.2.2 q q1 q3) hP hD hS
  refine lv_istore (lv' := [(6, .int M.1), (5, .int M.2.2.2), (0, .ref b), (1, .ref ob), (2, .ref om), (3, .ref out), (4, .int iv)]) hx hb dL_law_632 hl (by decide) rfl (fun ls hl => ?_)
  refine lv_aload_n hx hb dL_law_634 rfl (lv_at hl 4 rfl) ?_
  refine rc_V (b := om) (r := .int M.2.2.2) (As := []) (rest := []) ⟨hx, hb, C.hml, C.hown, C.hts⟩ (c_X3_thrown l D tys ad L g2 om fz cj (nI N) M.2.2.1 tna M.2.2.2 twi ff M.2.1 w.I.L_om w.I.L_fz w.I.L_cj hM2.1 hM2.2.1 hM2.2.2 C.htJ C.htZ) (cwV 0 C.hts gL_law_X3_thrown rfl rfl rfl hd_X3_thrown ⟨Nat.le_of_ble_eq_true rfl, Nat.le_of_ble_eq_true rfl⟩) (pg_recv C.hK hP w.I.L_om hM2.1 rfl) (LW.ww C hP hD hS w.hLA) C.hXN rfl hl.1 rfl (lv_room (Nat.le_of_ble_eq_true rfl)) dL_law_635 hc ?_
  refine lv_iload hx hb dL_law_638 (lv_at hl 1 rfl) ?_
  refine lv_icmp_eq (tgt := 645) hx hb dL_law_640 (by decide) (fun _ => ?_) (fun cn => absurd rfl cn)
  refine lv_iload hx hb dL_law_645 (lv_at hl 1 rfl) ?_
  refine lv_if_ne (tgt := 669) hx hb dL_law_647 (by decide) (fun c0 => ?_) (fun c0 => ?_)
  case refine_1 =>
    refine lv_goto (tgt := 1208) hx hb dL_law_669 (by decide) ?_
    exact nx _ _ _ _ _ _ _ _ _ _ _ _ _ _ _ w2 (lv_sub hl [2, 3, 4, 5, 6] rfl)
  obtain ⟨fo2, ho2, hr2⟩ := hp.2.2.1
  have hg_out : g2 out = .inl (cyJ, 1, .inr (.inl fo2)) := (hp2.2.2 out w.I.out_om w.I.out_cj).trans ho2
  refine lv_aload_n hx hb dL_law_650 rfl (lv_at hl 5 rfl) ?_
  refine lv_iconst (v := 0) hx hb dL_law_651 (by decide) ?_
  refine pg_lald hx hb C.hK hP 0 w.I.L_out hg_out C.htJ (by unfold vp_in; decide) dL_law_652 ?_
  refine lv_iload hx hb dL_law_653 (lv_at hl 0 rfl) ?_
  refine lw_bool2 hx hb dL_law_655 dL_law_658 dL_law_659 dL_law_662 ?_
  refine pl_eq (tgt := 669) hx hb dL_law_663 dL_law_664 (by decide) (fun _ => ?_) (fun cn => absurd (hr2 c0) cn)
  refine lv_goto (tgt := 1208) hx hb dL_law_669 (by decide) ?_
  exact nx _ _ _ _ _ _ _ _ _ _ _ _ _ _ _ w2 (lv_sub hl [2, 3, 4, 5, 6] rfl)
set_option maxHeartbeats 1000000 in
set_option maxRecDepth 100000 in
theorem t_rest {p : Program} {l : Launch} {e : Env} {s : State} {m : MethodId} {below : List Frame} {meth : Method} {c : Code} {b Lx : Nat} {xs : Nat → Int32} {D : va_G} {tys : List (ClassId × FieldType)} {ad : Nat → Nat} {cyJ cyZ cyN : ClassId} {ob arr out om fz cj : Nat} {L : List Nat} {g : Nat → va_E} {H : Heap} {locs : List Loc} {N : Nat} {kd na : Nat → Nat} {fa : Nat → Option Nat} {ff : Nat → Int32} {cv : Nat → Int64} {mvs tna kt : Int32} {twi : Int64} {iv : Int32} {cells slots : Nat} {Q : State → Prop} {ls : Array Slot} (C : LC p l s m meth c b Lx xs D tys ad cyJ cyZ cyN) (w : LW s D ad cyJ cyZ cyN ob arr out om fz cj L g H locs N kd na fa ff cv mvs tna kt twi) (hl : lv_has ls 8 [(0, .ref b), (1, .ref ob), (2, .ref om), (3, .ref out), (4, .int iv)]) (hin : ∀ k : Int32, (0 ≤ k ∧ k ≤ 5) → vp_in (iv + k) Lx) (hc : cells + 3 ≤ room_1.cells ∧ slots + 20 ≤ room_1.slots) (nx : NX p l e s m below meth c b D ad cyJ cyZ cyN ob arr out om fz cj iv (cells + 3) (slots + 20) Q) : W p l e room_1 s m #[Value.ref b] below meth c H locs cells slots Q (F0 m 672 ls []) := by
  have hx := C.hx
  have hb := C.hb
  have hbA : ¬ (fun q : Nat => s.heap.size ≤ q) b := Nat.not_le.mpr C.hbl
  have in1 := hin 1 (by decide)
  obtain ⟨a1, ea1⟩ : ∃ z : Int32, z = xs (iv + 1).toNatClampNeg := ⟨_, rfl⟩
  have in2 := hin 2 (by decide)
  obtain ⟨a2, ea2⟩ : ∃ z : Int32, z = xs (iv + 2).toNatClampNeg := ⟨_, rfl⟩
  refine lv_aload_n hx hb dL_law_672 rfl (lv_at hl 1 rfl) ?_
  refine lv_aload_n hx hb dL_law_673 rfl (lv_at hl 0 rfl) ?_
  refine lv_iload hx hb dL_law_674 (lv_at hl 4 rfl) ?_
  refine lv_iconst (v := 1) hx hb dL_law_676 (by decide) ?_
  refine lv_iadd hx hb dL_law_677 ?_
  refine va_sld hx hb C.hX C.hbl hbA w.hS in1 dL_law_678 ?_
  rw [← ea1]
  refine lv_aload_n hx hb dL_law_679 rfl (lv_at hl 0 rfl) ?_
  refine lv_iload hx hb dL_law_680 (lv_at hl 4 rfl) ?_
  refine lv_iconst (v := 2) hx hb dL_law_682 (by decide) ?_
  refine lv_iadd hx hb dL_law_683 ?_
  refine va_sld hx hb C.hX C.hbl hbA w.hS in2 dL_law_684 ?_
  rw [← ea2]
  refine lv_aload_n hx hb dL_law_685 rfl (lv_at hl 3 rfl) ?_
  obtain ⟨fo, hO⟩ := w.hO
  have hu := u_rest l C.hfl w.I w.hB hO C.htN C.htJ kt a1 a2 (D := D) (om := om) (fz := fz) (cj := cj)
  obtain ⟨M, eM⟩ : ∃ z, z = fX3_rest (nI N) mvs tna kt twi ff cv a1 a2 := ⟨_, rfl⟩
  rw [← eM] at hu
  refine hu_W (As := [.ref ob, .int a1, .int a2, .ref out]) (rest := []) ⟨hx, hb, C.hml, C.hown, C.hts⟩ hu (fun rm mc ms q1 q2 q3 q4 => vx_cwSW 4 C.hts gL_law_L_rest rfl q1 q2 hd_L_rest ⟨Nat.le_trans (Nat.succ_le_succ q3) (Nat.le_of_ble_eq_true rfl), Nat.le_trans (Nat.add_le_add_left q4 _) (Nat.le_of_ble_eq_true rfl)⟩) (LW.ww C w.hP w.hD w.hS w.hLA) C.hXN w.hS w.hLA rfl hl.1 rfl (lv_room (Nat.le_of_ble_eq_true rfl)) dL_law_686 hc (fun g1 H1 locs1 hp hP hD hS => ?_)
  refine lv_istore (lv' := [(5, .int M.2.2.2), (0, .ref b), (1, .ref ob), (2, .ref om), (3, .ref out), (4, .int iv)]) hx hb dL_law_689 hl (by decide) rfl (fun ls hl => ?_)
  refine lv_aload_n hx hb dL_law_691 rfl (lv_at hl 3 rfl) ?_
  refine lv_aload_n hx hb dL_law_692 rfl (lv_at hl 1 rfl) ?_
  refine lv_iload hx hb dL_law_693 (lv_at hl 5 rfl) ?_
  refine lv_iconst (v := 1) hx hb dL_law_695 (by decide) ?_
  refine lv_iadd hx hb dL_law_696 ?_
  refine va_sld hx hb C.hX C.hbl hbA hS in1 dL_law_697 ?_
  rw [← ea1]
  refine lv_aload_n hx hb dL_law_698 rfl (lv_at hl 1 rfl) ?_
  refine lv_iload hx hb dL_law_699 (lv_at hl 5 rfl) ?_
  refine lv_iconst (v := 2) hx hb dL_law_701 (by decide) ?_
  refine lv_iadd hx hb dL_law_702 ?_
  refine va_sld hx hb C.hX C.hbl hbA hS in2 dL_law_703 ?_
  rw [← ea2]
  have hM1 := ms_of w.hM hp.2.2.2.1 hp.2.2.2.2.1 hp.2.2.2.2.2
  have hm := c_X3_rest l D tys ad L g1 om fz cj (nI N) mvs tna kt twi ff cv a1 a2 w.I.L_om w.I.L_fz w.I.L_cj hM1.1 hM1.2.1 hM1.2.2 w.I.om_cj w.I.om_fz.symm w.I.fz_cj w.I.om_cj.symm C.htJ C.htZ w.I.kn (d_restF w.I a1) (d_restC w.I a1 a2)
  rw [← eM] at hm
  refine mc_V (b := om) (As := [.int a1, .int a2]) (rest := []) ⟨hx, hb, C.hml, C.hown, C.hts⟩ hm (cwV 2 C.hts gL_law_X3_rest rfl rfl rfl hd_X3_rest ⟨Nat.le_of_ble_eq_true rfl, Nat.le_of_ble_eq_true rfl⟩) (pg_recv C.hK hP w.I.L_om hM1.1 rfl) (LW.ww C hP hD hS w.hLA) C.hXN hS w.hLA rfl hl.1 rfl (lv_room (Nat.le_of_ble_eq_true rfl)) dL_law_704 hc (fun g2 H2 locs2 hp2 hP hD hS => ?_)
  have hM2 := mp_2 (w.I.cells hp.2.1) hM1 hp2.1 hp2.2.1 hp2.2.2
  have w2 := w.next hp hM2 (fun q q1 q2 q3 => hp2.2.2 q q1 q3) hP hD hS
  refine lv_lstore (lv' := [(6, .long M.1), (5, .int M.2.2.2), (0, .ref b), (1, .ref ob), (2, .ref om), (3, .ref out), (4, .int iv)]) hx hb dL_law_707 hl (by decide) rfl (fun ls hl => ?_)
  refine lv_aload_n hx hb dL_law_709 rfl (lv_at hl 4 rfl) ?_
  refine rc_V (b := om) (r := .int M.2.2.2) (As := []) (rest := []) ⟨hx, hb, C.hml, C.hown, C.hts⟩ (c_X3_thrown l D tys ad L g2 om fz cj (nI N) M.2.2.1 tna M.2.2.2 twi ff M.2.1 w.I.L_om w.I.L_fz w.I.L_cj hM2.1 hM2.2.1 hM2.2.2 C.htJ C.htZ) (cwV 0 C.hts gL_law_X3_thrown rfl rfl rfl hd_X3_thrown ⟨Nat.le_of_ble_eq_true rfl, Nat.le_of_ble_eq_true rfl⟩) (pg_recv C.hK hP w.I.L_om hM2.1 rfl) (LW.ww C hP hD hS w.hLA) C.hXN rfl hl.1 rfl (lv_room (Nat.le_of_ble_eq_true rfl)) dL_law_710 hc ?_
  refine lv_iload hx hb dL_law_713 (lv_at hl 1 rfl) ?_
  refine lv_icmp_eq (tgt := 720) hx hb dL_law_715 (by decide) (fun _ => ?_) (fun cn => absurd rfl cn)
  refine lv_iload hx hb dL_law_720 (lv_at hl 1 rfl) ?_
  refine lv_if_ne (tgt := 736) hx hb dL_law_722 (by decide) (fun c0 => ?_) (fun c0 => ?_)
  case refine_1 =>
    refine lv_goto (tgt := 1208) hx hb dL_law_736 (by decide) ?_
    exact nx _ _ _ _ _ _ _ _ _ _ _ _ _ _ _ w2 (lv_sub hl [2, 3, 4, 5, 6] rfl)
  obtain ⟨fo2, ho2, hr2⟩ := hp.2.2.1
  have hg_out : g2 out = .inl (cyJ, 1, .inr (.inl fo2)) := (hp2.2.2 out w.I.out_om w.I.out_cj).trans ho2
  refine lv_aload_n hx hb dL_law_725 rfl (lv_at hl 5 rfl) ?_
  refine lv_iconst (v := 0) hx hb dL_law_726 (by decide) ?_
  refine pg_lald hx hb C.hK hP 0 w.I.L_out hg_out C.htJ (by unfold vp_in; decide) dL_law_727 ?_
  refine lv_lload hx hb dL_law_728 (lv_at hl 0 rfl) ?_
  refine pl_eq (tgt := 736) hx hb dL_law_730 dL_law_731 (by decide) (fun _ => ?_) (fun cn => absurd (hr2 c0) cn)
  refine lv_goto (tgt := 1208) hx hb dL_law_736 (by decide) ?_
  exact nx _ _ _ _ _ _ _ _ _ _ _ _ _ _ _ w2 (lv_sub hl [2, 3, 4, 5, 6] rfl)
set_option maxHeartbeats 1000000 in
set_option maxRecDepth 100000 in
theorem t_face {p : Program} {l : Launch} {e : Env} {s : State} {m : MethodId} {below : List Frame} {meth : Method} {c : Code} {b Lx : Nat} {xs : Nat → Int32} {D : va_G} {tys : List (ClassId × FieldType)} {ad : Nat → Nat} {cyJ cyZ cyN : ClassId} {ob arr out om fz cj : Nat} {L : List Nat} {g : Nat → va_E} {H : Heap} {locs : List Loc} {N : Nat} {kd na : Nat → Nat} {fa : Nat → Option Nat} {ff : Nat → Int32} {cv : Nat → Int64} {mvs tna kt : Int32} {twi : Int64} {iv : Int32} {cells slots : Nat} {Q : State → Prop} {ls : Array Slot} (C : LC p l s m meth c b Lx xs D tys ad cyJ cyZ cyN) (w : LW s D ad cyJ cyZ cyN ob arr out om fz cj L g H locs N kd na fa ff cv mvs tna kt twi) (hl : lv_has ls 8 [(0, .ref b), (1, .ref ob), (2, .ref om), (3, .ref out), (4, .int iv)]) (hin : ∀ k : Int32, (0 ≤ k ∧ k ≤ 5) → vp_in (iv + k) Lx) (hc : cells + 3 ≤ room_1.cells ∧ slots + 20 ≤ room_1.slots) (nx : NX p l e s m below meth c b D ad cyJ cyZ cyN ob arr out om fz cj iv (cells + 3) (slots + 20) Q) : W p l e room_1 s m #[Value.ref b] below meth c H locs cells slots Q (F0 m 739 ls []) := by
  have hx := C.hx
  have hb := C.hb
  have hbA : ¬ (fun q : Nat => s.heap.size ≤ q) b := Nat.not_le.mpr C.hbl
  have in1 := hin 1 (by decide)
  obtain ⟨a1, ea1⟩ : ∃ z : Int32, z = xs (iv + 1).toNatClampNeg := ⟨_, rfl⟩
  have in2 := hin 2 (by decide)
  obtain ⟨a2, ea2⟩ : ∃ z : Int32, z = xs (iv + 2).toNatClampNeg := ⟨_, rfl⟩
  refine lv_aload_n hx hb dL_law_739 rfl (lv_at hl 1 rfl) ?_
  refine lv_aload_n hx hb dL_law_740 rfl (lv_at hl 0 rfl) ?_
  refine lv_iload hx hb dL_law_741 (lv_at hl 4 rfl) ?_
  refine lv_iconst (v := 1) hx hb dL_law_743 (by decide) ?_
  refine lv_iadd hx hb dL_law_744 ?_
  refine va_sld hx hb C.hX C.hbl hbA w.hS in1 dL_law_745 ?_
  rw [← ea1]
  refine lv_aload_n hx hb dL_law_746 rfl (lv_at hl 0 rfl) ?_
  refine lv_iload hx hb dL_law_747 (lv_at hl 4 rfl) ?_
  refine lv_iconst (v := 2) hx hb dL_law_749 (by decide) ?_
  refine lv_iadd hx hb dL_law_750 ?_
  refine va_sld hx hb C.hX C.hbl hbA w.hS in2 dL_law_751 ?_
  rw [← ea2]
  refine lv_aload_n hx hb dL_law_752 rfl (lv_at hl 3 rfl) ?_
  obtain ⟨fo, hO⟩ := w.hO
  have hu := u_face l C.hfl w.I w.hB hO C.htN C.htJ kt a1 a2 (D := D) (om := om) (fz := fz) (cj := cj)
  obtain ⟨M, eM⟩ : ∃ z, z = fX3_face (nI N) mvs tna kt twi ff cv a1 a2 := ⟨_, rfl⟩
  rw [← eM] at hu
  refine hu_W (As := [.ref ob, .int a1, .int a2, .ref out]) (rest := []) ⟨hx, hb, C.hml, C.hown, C.hts⟩ hu (fun rm mc ms q1 q2 q3 q4 => vx_cwSW 4 C.hts gL_law_L_face rfl q1 q2 hd_L_face ⟨Nat.le_trans (Nat.succ_le_succ q3) (Nat.le_of_ble_eq_true rfl), Nat.le_trans (Nat.add_le_add_left q4 _) (Nat.le_of_ble_eq_true rfl)⟩) (LW.ww C w.hP w.hD w.hS w.hLA) C.hXN w.hS w.hLA rfl hl.1 rfl (lv_room (Nat.le_of_ble_eq_true rfl)) dL_law_753 hc (fun g1 H1 locs1 hp hP hD hS => ?_)
  refine lv_istore (lv' := [(5, .int M.2.2.2), (0, .ref b), (1, .ref ob), (2, .ref om), (3, .ref out), (4, .int iv)]) hx hb dL_law_756 hl (by decide) rfl (fun ls hl => ?_)
  refine lv_aload_n hx hb dL_law_758 rfl (lv_at hl 3 rfl) ?_
  refine lv_aload_n hx hb dL_law_759 rfl (lv_at hl 1 rfl) ?_
  refine lv_iload hx hb dL_law_760 (lv_at hl 5 rfl) ?_
  refine lv_iconst (v := 1) hx hb dL_law_762 (by decide) ?_
  refine lv_iadd hx hb dL_law_763 ?_
  refine va_sld hx hb C.hX C.hbl hbA hS in1 dL_law_764 ?_
  rw [← ea1]
  refine lv_aload_n hx hb dL_law_765 rfl (lv_at hl 1 rfl) ?_
  refine lv_iload hx hb dL_law_766 (lv_at hl 5 rfl) ?_
  refine lv_iconst (v := 2) hx hb dL_law_768 (by decide) ?_
  refine lv_iadd hx hb dL_law_769 ?_
  refine va_sld hx hb C.hX C.hbl hbA hS in2 dL_law_770 ?_
  rw [← ea2]
  have hM1 := ms_of w.hM hp.2.2.2.1 hp.2.2.2.2.1 hp.2.2.2.2.2
  have hm := c_X3_face l D tys ad L g1 om fz cj (nI N) mvs tna kt twi ff cv a1 a2 w.I.L_om w.I.L_fz w.I.L_cj hM1.1 hM1.2.1 hM1.2.2 w.I.om_cj w.I.om_fz.symm w.I.fz_cj w.I.om_cj.symm C.htJ C.htZ w.I.kn 
  rw [← eM] at hm
  refine mc_V (b := om) (As := [.int a1, .int a2]) (rest := []) ⟨hx, hb, C.hml, C.hown, C.hts⟩ hm (cwV 2 C.hts gL_law_X3_face rfl rfl rfl hd_X3_face ⟨Nat.le_of_ble_eq_true rfl, Nat.le_of_ble_eq_true rfl⟩) (pg_recv C.hK hP w.I.L_om hM1.1 rfl) (LW.ww C hP hD hS w.hLA) C.hXN hS w.hLA rfl hl.1 rfl (lv_room (Nat.le_of_ble_eq_true rfl)) dL_law_771 hc (fun g2 H2 locs2 hp2 hP hD hS => ?_)
  have hM2 := mp_2 (w.I.cells hp.2.1) hM1 hp2.1 hp2.2.1 hp2.2.2
  have w2 := w.next hp hM2 (fun q q1 q2 q3 => hp2.2.2 q q1 q3) hP hD hS
  refine lv_lstore (lv' := [(6, .long M.1), (5, .int M.2.2.2), (0, .ref b), (1, .ref ob), (2, .ref om), (3, .ref out), (4, .int iv)]) hx hb dL_law_774 hl (by decide) rfl (fun ls hl => ?_)
  refine lv_aload_n hx hb dL_law_776 rfl (lv_at hl 4 rfl) ?_
  refine rc_V (b := om) (r := .int M.2.2.2) (As := []) (rest := []) ⟨hx, hb, C.hml, C.hown, C.hts⟩ (c_X3_thrown l D tys ad L g2 om fz cj (nI N) M.2.2.1 tna M.2.2.2 twi ff M.2.1 w.I.L_om w.I.L_fz w.I.L_cj hM2.1 hM2.2.1 hM2.2.2 C.htJ C.htZ) (cwV 0 C.hts gL_law_X3_thrown rfl rfl rfl hd_X3_thrown ⟨Nat.le_of_ble_eq_true rfl, Nat.le_of_ble_eq_true rfl⟩) (pg_recv C.hK hP w.I.L_om hM2.1 rfl) (LW.ww C hP hD hS w.hLA) C.hXN rfl hl.1 rfl (lv_room (Nat.le_of_ble_eq_true rfl)) dL_law_777 hc ?_
  refine lv_iload hx hb dL_law_780 (lv_at hl 1 rfl) ?_
  refine lv_icmp_eq (tgt := 787) hx hb dL_law_782 (by decide) (fun _ => ?_) (fun cn => absurd rfl cn)
  refine lv_iload hx hb dL_law_787 (lv_at hl 1 rfl) ?_
  refine lv_if_ne (tgt := 803) hx hb dL_law_789 (by decide) (fun c0 => ?_) (fun c0 => ?_)
  case refine_1 =>
    refine lv_goto (tgt := 1208) hx hb dL_law_803 (by decide) ?_
    exact nx _ _ _ _ _ _ _ _ _ _ _ _ _ _ _ w2 (lv_sub hl [2, 3, 4, 5, 6] rfl)
  obtain ⟨fo2, ho2, hr2⟩ := hp.2.2.1
  have hg_out : g2 out = .inl (cyJ, 1, .inr (.inl fo2)) := (hp2.2.2 out w.I.out_om w.I.out_cj).trans ho2
  refine lv_aload_n hx hb dL_law_792 rfl (lv_at hl 5 rfl) ?_
  refine lv_iconst (v := 0) hx hb dL_law_793 (by decide) ?_
  refine pg_lald hx hb C.hK hP 0 w.I.L_out hg_out C.htJ (by unfold vp_in; decide) dL_law_794 ?_
  refine lv_lload hx hb dL_law_795 (lv_at hl 0 rfl) ?_
  refine pl_eq (tgt := 803) hx hb dL_law_797 dL_law_798 (by decide) (fun _ => ?_) (fun cn => absurd (hr2 c0) cn)
  refine lv_goto (tgt := 1208) hx hb dL_law_803 (by decide) ?_
  exact nx _ _ _ _ _ _ _ _ _ _ _ _ _ _ _ w2 (lv_sub hl [2, 3, 4, 5, 6] rfl)
set_option maxHeartbeats 1000000 in
set_option maxRecDepth 100000 in
theorem t_read {p : Program} {l : Launch} {e : Env} {s : State} {m : MethodId} {below : List Frame} {meth : Method} {c : Code} {b Lx : Nat} {xs : Nat → Int32} {D : va_G} {tys : List (ClassId × FieldType)} {ad : Nat → Nat} {cyJ cyZ cyN : ClassId} {ob arr out om fz cj : Nat} {L : List Nat} {g : Nat → va_E} {H : Heap} {locs : List Loc} {N : Nat} {kd na : Nat → Nat} {fa : Nat → Option Nat} {ff : Nat → Int32} {cv : Nat → Int64} {mvs tna kt : Int32} {twi : Int64} {iv : Int32} {cells slots : Nat} {Q : State → Prop} {ls : Array Slot} (C : LC p l s m meth c b Lx xs D tys ad cyJ cyZ cyN) (w : LW s D ad cyJ cyZ cyN ob arr out om fz cj L g H locs N kd na fa ff cv mvs tna kt twi) (hl : lv_has ls 8 [(0, .ref b), (1, .ref ob), (2, .ref om), (3, .ref out), (4, .int iv)]) (hin : ∀ k : Int32, (0 ≤ k ∧ k ≤ 5) → vp_in (iv + k) Lx) (hc : cells + 3 ≤ room_1.cells ∧ slots + 20 ≤ room_1.slots) (nx : NX p l e s m below meth c b D ad cyJ cyZ cyN ob arr out om fz cj iv (cells + 3) (slots + 20) Q) : W p l e room_1 s m #[Value.ref b] below meth c H locs cells slots Q (F0 m 806 ls []) := by
  have hx := C.hx
  have hb := C.hb
  have hbA : ¬ (fun q : Nat => s.heap.size ≤ q) b := Nat.not_le.mpr C.hbl
  have in1 := hin 1 (by decide)
  obtain ⟨a1, ea1⟩ : ∃ z : Int32, z = xs (iv + 1).toNatClampNeg := ⟨_, rfl⟩
  have in2 := hin 2 (by decide)
  obtain ⟨a2, ea2⟩ : ∃ z : Int32, z = xs (iv + 2).toNatClampNeg := ⟨_, rfl⟩
  refine lv_aload_n hx hb dL_law_806 rfl (lv_at hl 1 rfl) ?_
  refine lv_aload_n hx hb dL_law_807 rfl (lv_at hl 0 rfl) ?_
  refine lv_iload hx hb dL_law_808 (lv_at hl 4 rfl) ?_
  refine lv_iconst (v := 1) hx hb dL_law_810 (by decide) ?_
  refine lv_iadd hx hb dL_law_811 ?_
  refine va_sld hx hb C.hX C.hbl hbA w.hS in1 dL_law_812 ?_
  rw [← ea1]
  refine lv_aload_n hx hb dL_law_813 rfl (lv_at hl 0 rfl) ?_
  refine lv_iload hx hb dL_law_814 (lv_at hl 4 rfl) ?_
  refine lv_iconst (v := 2) hx hb dL_law_816 (by decide) ?_
  refine lv_iadd hx hb dL_law_817 ?_
  refine va_sld hx hb C.hX C.hbl hbA w.hS in2 dL_law_818 ?_
  rw [← ea2]
  refine lv_aload_n hx hb dL_law_819 rfl (lv_at hl 3 rfl) ?_
  obtain ⟨fo, hO⟩ := w.hO
  have hu := u_read l C.hfl w.I w.hB hO C.htN C.htJ kt a1 a2 (D := D) (om := om) (fz := fz) (cj := cj)
  obtain ⟨M, eM⟩ : ∃ z, z = fX3_read (nI N) mvs tna kt twi ff cv a1 a2 := ⟨_, rfl⟩
  rw [← eM] at hu
  refine hu_W (As := [.ref ob, .int a1, .int a2, .ref out]) (rest := []) ⟨hx, hb, C.hml, C.hown, C.hts⟩ hu (fun rm mc ms q1 q2 q3 q4 => vx_cwSW 4 C.hts gL_law_L_read rfl q1 q2 hd_L_read ⟨Nat.le_trans (Nat.succ_le_succ q3) (Nat.le_of_ble_eq_true rfl), Nat.le_trans (Nat.add_le_add_left q4 _) (Nat.le_of_ble_eq_true rfl)⟩) (LW.ww C w.hP w.hD w.hS w.hLA) C.hXN w.hS w.hLA rfl hl.1 rfl (lv_room (Nat.le_of_ble_eq_true rfl)) dL_law_820 hc (fun g1 H1 locs1 hp hP hD hS => ?_)
  refine lv_istore (lv' := [(5, .int M.2), (0, .ref b), (1, .ref ob), (2, .ref om), (3, .ref out), (4, .int iv)]) hx hb dL_law_823 hl (by decide) rfl (fun ls hl => ?_)
  refine lv_aload_n hx hb dL_law_825 rfl (lv_at hl 3 rfl) ?_
  refine lv_aload_n hx hb dL_law_826 rfl (lv_at hl 1 rfl) ?_
  refine lv_iload hx hb dL_law_827 (lv_at hl 5 rfl) ?_
  refine lv_iconst (v := 1) hx hb dL_law_829 (by decide) ?_
  refine lv_iadd hx hb dL_law_830 ?_
  refine va_sld hx hb C.hX C.hbl hbA hS in1 dL_law_831 ?_
  rw [← ea1]
  refine lv_aload_n hx hb dL_law_832 rfl (lv_at hl 1 rfl) ?_
  refine lv_iload hx hb dL_law_833 (lv_at hl 5 rfl) ?_
  refine lv_iconst (v := 2) hx hb dL_law_835 (by decide) ?_
  refine lv_iadd hx hb dL_law_836 ?_
  refine va_sld hx hb C.hX C.hbl hbA hS in2 dL_law_837 ?_
  rw [← ea2]
  have hM1 := ms_of w.hM hp.2.2.2.1 hp.2.2.2.2.1 hp.2.2.2.2.2
  have hm := c_X3_read l D tys ad L g1 om fz cj (nI N) mvs tna kt twi ff cv a1 a2 w.I.L_om w.I.L_fz w.I.L_cj hM1.1 hM1.2.1 hM1.2.2 w.I.om_fz.symm w.I.om_cj.symm C.htJ C.htZ w.I.kn 
  rw [← eM] at hm
  refine mc_V (b := om) (As := [.int a1, .int a2]) (rest := []) ⟨hx, hb, C.hml, C.hown, C.hts⟩ hm (cwV 2 C.hts gL_law_X3_read rfl rfl rfl hd_X3_read ⟨Nat.le_of_ble_eq_true rfl, Nat.le_of_ble_eq_true rfl⟩) (pg_recv C.hK hP w.I.L_om hM1.1 rfl) (LW.ww C hP hD hS w.hLA) C.hXN hS w.hLA rfl hl.1 rfl (lv_room (Nat.le_of_ble_eq_true rfl)) dL_law_838 hc (fun g2 H2 locs2 hp2 hP hD hS => ?_)
  have hM2 := mp_1 (w.I.cells hp.2.1) hM1 hp2.1 hp2.2
  have w2 := w.next hp hM2 (fun q q1 q2 q3 => hp2.2 q q1) hP hD hS
  refine lv_lstore (lv' := [(6, .long M.1), (5, .int M.2), (0, .ref b), (1, .ref ob), (2, .ref om), (3, .ref out), (4, .int iv)]) hx hb dL_law_841 hl (by decide) rfl (fun ls hl => ?_)
  refine lv_aload_n hx hb dL_law_843 rfl (lv_at hl 4 rfl) ?_
  refine rc_V (b := om) (r := .int M.2) (As := []) (rest := []) ⟨hx, hb, C.hml, C.hown, C.hts⟩ (c_X3_thrown l D tys ad L g2 om fz cj (nI N) mvs tna M.2 twi ff cv w.I.L_om w.I.L_fz w.I.L_cj hM2.1 hM2.2.1 hM2.2.2 C.htJ C.htZ) (cwV 0 C.hts gL_law_X3_thrown rfl rfl rfl hd_X3_thrown ⟨Nat.le_of_ble_eq_true rfl, Nat.le_of_ble_eq_true rfl⟩) (pg_recv C.hK hP w.I.L_om hM2.1 rfl) (LW.ww C hP hD hS w.hLA) C.hXN rfl hl.1 rfl (lv_room (Nat.le_of_ble_eq_true rfl)) dL_law_844 hc ?_
  refine lv_iload hx hb dL_law_847 (lv_at hl 1 rfl) ?_
  refine lv_icmp_eq (tgt := 854) hx hb dL_law_849 (by decide) (fun _ => ?_) (fun cn => absurd rfl cn)
  refine lv_iload hx hb dL_law_854 (lv_at hl 1 rfl) ?_
  refine lv_if_ne (tgt := 870) hx hb dL_law_856 (by decide) (fun c0 => ?_) (fun c0 => ?_)
  case refine_1 =>
    refine lv_goto (tgt := 1208) hx hb dL_law_870 (by decide) ?_
    exact nx _ _ _ _ _ _ _ _ _ _ _ _ _ _ _ w2 (lv_sub hl [2, 3, 4, 5, 6] rfl)
  obtain ⟨fo2, ho2, hr2⟩ := hp.2.2.1
  have hg_out : g2 out = .inl (cyJ, 1, .inr (.inl fo2)) := (hp2.2 out w.I.out_om).trans ho2
  refine lv_aload_n hx hb dL_law_859 rfl (lv_at hl 5 rfl) ?_
  refine lv_iconst (v := 0) hx hb dL_law_860 (by decide) ?_
  refine pg_lald hx hb C.hK hP 0 w.I.L_out hg_out C.htJ (by unfold vp_in; decide) dL_law_861 ?_
  refine lv_lload hx hb dL_law_862 (lv_at hl 0 rfl) ?_
  refine pl_eq (tgt := 870) hx hb dL_law_864 dL_law_865 (by decide) (fun _ => ?_) (fun cn => absurd (hr2 c0) cn)
  refine lv_goto (tgt := 1208) hx hb dL_law_870 (by decide) ?_
  exact nx _ _ _ _ _ _ _ _ _ _ _ _ _ _ _ w2 (lv_sub hl [2, 3, 4, 5, 6] rfl)
set_option maxHeartbeats 1000000 in
set_option maxRecDepth 100000 in
theorem t_between {p : Program} {l : Launch} {e : Env} {s : State} {m : MethodId} {below : List Frame} {meth : Method} {c : Code} {b Lx : Nat} {xs : Nat → Int32} {D : va_G} {tys : List (ClassId × FieldType)} {ad : Nat → Nat} {cyJ cyZ cyN : ClassId} {ob arr out om fz cj : Nat} {L : List Nat} {g : Nat → va_E} {H : Heap} {locs : List Loc} {N : Nat} {kd na : Nat → Nat} {fa : Nat → Option Nat} {ff : Nat → Int32} {cv : Nat → Int64} {mvs tna kt : Int32} {twi : Int64} {iv : Int32} {cells slots : Nat} {Q : State → Prop} {ls : Array Slot} (C : LC p l s m meth c b Lx xs D tys ad cyJ cyZ cyN) (w : LW s D ad cyJ cyZ cyN ob arr out om fz cj L g H locs N kd na fa ff cv mvs tna kt twi) (hl : lv_has ls 8 [(0, .ref b), (1, .ref ob), (2, .ref om), (3, .ref out), (4, .int iv)]) (hin : ∀ k : Int32, (0 ≤ k ∧ k ≤ 5) → vp_in (iv + k) Lx) (hc : cells + 3 ≤ room_1.cells ∧ slots + 20 ≤ room_1.slots) (nx : NX p l e s m below meth c b D ad cyJ cyZ cyN ob arr out om fz cj iv (cells + 3) (slots + 20) Q) : W p l e room_1 s m #[Value.ref b] below meth c H locs cells slots Q (F0 m 873 ls []) := by
  have hx := C.hx
  have hb := C.hb
  have hbA : ¬ (fun q : Nat => s.heap.size ≤ q) b := Nat.not_le.mpr C.hbl
  have in1 := hin 1 (by decide)
  obtain ⟨a1, ea1⟩ : ∃ z : Int32, z = xs (iv + 1).toNatClampNeg := ⟨_, rfl⟩
  have in2 := hin 2 (by decide)
  obtain ⟨a2, ea2⟩ : ∃ z : Int32, z = xs (iv + 2).toNatClampNeg := ⟨_, rfl⟩
  have in3 := hin 3 (by decide)
  obtain ⟨a3, ea3⟩ : ∃ z : Int32, z = xs (iv + 3).toNatClampNeg := ⟨_, rfl⟩
  refine lv_aload_n hx hb dL_law_873 rfl (lv_at hl 1 rfl) ?_
  refine lv_aload_n hx hb dL_law_874 rfl (lv_at hl 0 rfl) ?_
  refine lv_iload hx hb dL_law_875 (lv_at hl 4 rfl) ?_
  refine lv_iconst (v := 1) hx hb dL_law_877 (by decide) ?_
  refine lv_iadd hx hb dL_law_878 ?_
  refine va_sld hx hb C.hX C.hbl hbA w.hS in1 dL_law_879 ?_
  rw [← ea1]
  refine lv_aload_n hx hb dL_law_880 rfl (lv_at hl 0 rfl) ?_
  refine lv_iload hx hb dL_law_881 (lv_at hl 4 rfl) ?_
  refine lv_iconst (v := 2) hx hb dL_law_883 (by decide) ?_
  refine lv_iadd hx hb dL_law_884 ?_
  refine va_sld hx hb C.hX C.hbl hbA w.hS in2 dL_law_885 ?_
  rw [← ea2]
  refine lv_aload_n hx hb dL_law_886 rfl (lv_at hl 0 rfl) ?_
  refine lv_iload hx hb dL_law_887 (lv_at hl 4 rfl) ?_
  refine lv_iconst (v := 3) hx hb dL_law_889 (by decide) ?_
  refine lv_iadd hx hb dL_law_890 ?_
  refine va_sld hx hb C.hX C.hbl hbA w.hS in3 dL_law_891 ?_
  rw [← ea3]
  refine lv_aload_n hx hb dL_law_892 rfl (lv_at hl 3 rfl) ?_
  obtain ⟨fo, hO⟩ := w.hO
  have hu := u_between l C.hfl w.I w.hB hO C.htN C.htJ kt a1 a2 a3 (D := D) (om := om) (fz := fz) (cj := cj)
  obtain ⟨M, eM⟩ : ∃ z, z = fX3_between (nI N) mvs tna kt twi ff cv a1 a2 a3 := ⟨_, rfl⟩
  rw [← eM] at hu
  refine hu_W (As := [.ref ob, .int a1, .int a2, .int a3, .ref out]) (rest := []) ⟨hx, hb, C.hml, C.hown, C.hts⟩ hu (fun rm mc ms q1 q2 q3 q4 => vx_cwSW 5 C.hts gL_law_L_between rfl q1 q2 hd_L_between ⟨Nat.le_trans (Nat.succ_le_succ q3) (Nat.le_of_ble_eq_true rfl), Nat.le_trans (Nat.add_le_add_left q4 _) (Nat.le_of_ble_eq_true rfl)⟩) (LW.ww C w.hP w.hD w.hS w.hLA) C.hXN w.hS w.hLA rfl hl.1 rfl (lv_room (Nat.le_of_ble_eq_true rfl)) dL_law_893 hc (fun g1 H1 locs1 hp hP hD hS => ?_)
  refine lv_istore (lv' := [(5, .int M.2), (0, .ref b), (1, .ref ob), (2, .ref om), (3, .ref out), (4, .int iv)]) hx hb dL_law_896 hl (by decide) rfl (fun ls hl => ?_)
  refine lv_aload_n hx hb dL_law_898 rfl (lv_at hl 3 rfl) ?_
  refine lv_aload_n hx hb dL_law_899 rfl (lv_at hl 1 rfl) ?_
  refine lv_iload hx hb dL_law_900 (lv_at hl 5 rfl) ?_
  refine lv_iconst (v := 1) hx hb dL_law_902 (by decide) ?_
  refine lv_iadd hx hb dL_law_903 ?_
  refine va_sld hx hb C.hX C.hbl hbA hS in1 dL_law_904 ?_
  rw [← ea1]
  refine lv_aload_n hx hb dL_law_905 rfl (lv_at hl 1 rfl) ?_
  refine lv_iload hx hb dL_law_906 (lv_at hl 5 rfl) ?_
  refine lv_iconst (v := 2) hx hb dL_law_908 (by decide) ?_
  refine lv_iadd hx hb dL_law_909 ?_
  refine va_sld hx hb C.hX C.hbl hbA hS in2 dL_law_910 ?_
  rw [← ea2]
  refine lv_aload_n hx hb dL_law_911 rfl (lv_at hl 1 rfl) ?_
  refine lv_iload hx hb dL_law_912 (lv_at hl 5 rfl) ?_
  refine lv_iconst (v := 3) hx hb dL_law_914 (by decide) ?_
  refine lv_iadd hx hb dL_law_915 ?_
  refine va_sld hx hb C.hX C.hbl hbA hS in3 dL_law_916 ?_
  rw [← ea3]
  have hM1 := ms_of w.hM hp.2.2.2.1 hp.2.2.2.2.1 hp.2.2.2.2.2
  have hm := c_X3_between l D tys ad L g1 om fz cj (nI N) mvs tna kt twi ff cv a1 a2 a3 w.I.L_om w.I.L_fz w.I.L_cj hM1.1 hM1.2.1 hM1.2.2 w.I.om_fz.symm w.I.om_cj.symm C.htJ C.htZ w.I.kn 
  rw [← eM] at hm
  refine mc_V (b := om) (As := [.int a1, .int a2, .int a3]) (rest := []) ⟨hx, hb, C.hml, C.hown, C.hts⟩ hm (cwV 3 C.hts gL_law_X3_between rfl rfl rfl hd_X3_between ⟨Nat.le_of_ble_eq_true rfl, Nat.le_of_ble_eq_true rfl⟩) (pg_recv C.hK hP w.I.L_om hM1.1 rfl) (LW.ww C hP hD hS w.hLA) C.hXN hS w.hLA rfl hl.1 rfl (lv_room (Nat.le_of_ble_eq_true rfl)) dL_law_917 hc (fun g2 H2 locs2 hp2 hP hD hS => ?_)
  have hM2 := mp_1 (w.I.cells hp.2.1) hM1 hp2.1 hp2.2
  have w2 := w.next hp hM2 (fun q q1 q2 q3 => hp2.2 q q1) hP hD hS
  refine lv_lstore (lv' := [(6, .long M.1), (5, .int M.2), (0, .ref b), (1, .ref ob), (2, .ref om), (3, .ref out), (4, .int iv)]) hx hb dL_law_920 hl (by decide) rfl (fun ls hl => ?_)
  refine lv_aload_n hx hb dL_law_922 rfl (lv_at hl 4 rfl) ?_
  refine rc_V (b := om) (r := .int M.2) (As := []) (rest := []) ⟨hx, hb, C.hml, C.hown, C.hts⟩ (c_X3_thrown l D tys ad L g2 om fz cj (nI N) mvs tna M.2 twi ff cv w.I.L_om w.I.L_fz w.I.L_cj hM2.1 hM2.2.1 hM2.2.2 C.htJ C.htZ) (cwV 0 C.hts gL_law_X3_thrown rfl rfl rfl hd_X3_thrown ⟨Nat.le_of_ble_eq_true rfl, Nat.le_of_ble_eq_true rfl⟩) (pg_recv C.hK hP w.I.L_om hM2.1 rfl) (LW.ww C hP hD hS w.hLA) C.hXN rfl hl.1 rfl (lv_room (Nat.le_of_ble_eq_true rfl)) dL_law_923 hc ?_
  refine lv_iload hx hb dL_law_926 (lv_at hl 1 rfl) ?_
  refine lv_icmp_eq (tgt := 933) hx hb dL_law_928 (by decide) (fun _ => ?_) (fun cn => absurd rfl cn)
  refine lv_iload hx hb dL_law_933 (lv_at hl 1 rfl) ?_
  refine lv_if_ne (tgt := 949) hx hb dL_law_935 (by decide) (fun c0 => ?_) (fun c0 => ?_)
  case refine_1 =>
    refine lv_goto (tgt := 1208) hx hb dL_law_949 (by decide) ?_
    exact nx _ _ _ _ _ _ _ _ _ _ _ _ _ _ _ w2 (lv_sub hl [2, 3, 4, 5, 6] rfl)
  obtain ⟨fo2, ho2, hr2⟩ := hp.2.2.1
  have hg_out : g2 out = .inl (cyJ, 1, .inr (.inl fo2)) := (hp2.2 out w.I.out_om).trans ho2
  refine lv_aload_n hx hb dL_law_938 rfl (lv_at hl 5 rfl) ?_
  refine lv_iconst (v := 0) hx hb dL_law_939 (by decide) ?_
  refine pg_lald hx hb C.hK hP 0 w.I.L_out hg_out C.htJ (by unfold vp_in; decide) dL_law_940 ?_
  refine lv_lload hx hb dL_law_941 (lv_at hl 0 rfl) ?_
  refine pl_eq (tgt := 949) hx hb dL_law_943 dL_law_944 (by decide) (fun _ => ?_) (fun cn => absurd (hr2 c0) cn)
  refine lv_goto (tgt := 1208) hx hb dL_law_949 (by decide) ?_
  exact nx _ _ _ _ _ _ _ _ _ _ _ _ _ _ _ w2 (lv_sub hl [2, 3, 4, 5, 6] rfl)
set_option maxHeartbeats 1000000 in
set_option maxRecDepth 100000 in
theorem t_order {p : Program} {l : Launch} {e : Env} {s : State} {m : MethodId} {below : List Frame} {meth : Method} {c : Code} {b Lx : Nat} {xs : Nat → Int32} {D : va_G} {tys : List (ClassId × FieldType)} {ad : Nat → Nat} {cyJ cyZ cyN : ClassId} {ob arr out om fz cj : Nat} {L : List Nat} {g : Nat → va_E} {H : Heap} {locs : List Loc} {N : Nat} {kd na : Nat → Nat} {fa : Nat → Option Nat} {ff : Nat → Int32} {cv : Nat → Int64} {mvs tna kt : Int32} {twi : Int64} {iv : Int32} {cells slots : Nat} {Q : State → Prop} {ls : Array Slot} (C : LC p l s m meth c b Lx xs D tys ad cyJ cyZ cyN) (w : LW s D ad cyJ cyZ cyN ob arr out om fz cj L g H locs N kd na fa ff cv mvs tna kt twi) (hl : lv_has ls 8 [(0, .ref b), (1, .ref ob), (2, .ref om), (3, .ref out), (4, .int iv)]) (hin : ∀ k : Int32, (0 ≤ k ∧ k ≤ 5) → vp_in (iv + k) Lx) (hc : cells + 3 ≤ room_1.cells ∧ slots + 20 ≤ room_1.slots) (nx : NX p l e s m below meth c b D ad cyJ cyZ cyN ob arr out om fz cj iv (cells + 3) (slots + 20) Q) : W p l e room_1 s m #[Value.ref b] below meth c H locs cells slots Q (F0 m 952 ls []) := by
  have hx := C.hx
  have hb := C.hb
  have hbA : ¬ (fun q : Nat => s.heap.size ≤ q) b := Nat.not_le.mpr C.hbl
  have in1 := hin 1 (by decide)
  obtain ⟨a1, ea1⟩ : ∃ z : Int32, z = xs (iv + 1).toNatClampNeg := ⟨_, rfl⟩
  have in2 := hin 2 (by decide)
  obtain ⟨a2, ea2⟩ : ∃ z : Int32, z = xs (iv + 2).toNatClampNeg := ⟨_, rfl⟩
  refine lv_aload_n hx hb dL_law_952 rfl (lv_at hl 1 rfl) ?_
  refine lv_aload_n hx hb dL_law_953 rfl (lv_at hl 0 rfl) ?_
  refine lv_iload hx hb dL_law_954 (lv_at hl 4 rfl) ?_
  refine lv_iconst (v := 1) hx hb dL_law_956 (by decide) ?_
  refine lv_iadd hx hb dL_law_957 ?_
  refine va_sld hx hb C.hX C.hbl hbA w.hS in1 dL_law_958 ?_
  rw [← ea1]
  refine lv_aload_n hx hb dL_law_959 rfl (lv_at hl 0 rfl) ?_
  refine lv_iload hx hb dL_law_960 (lv_at hl 4 rfl) ?_
  refine lv_iconst (v := 2) hx hb dL_law_962 (by decide) ?_
  refine lv_iadd hx hb dL_law_963 ?_
  refine va_sld hx hb C.hX C.hbl hbA w.hS in2 dL_law_964 ?_
  rw [← ea2]
  refine lv_aload_n hx hb dL_law_965 rfl (lv_at hl 3 rfl) ?_
  obtain ⟨fo, hO⟩ := w.hO
  have hu := u_order l C.hfl w.I w.hB hO C.htN C.htJ kt a1 a2 (D := D) (om := om) (fz := fz) (cj := cj)
  obtain ⟨M, eM⟩ : ∃ z, z = fX3_order (nI N) mvs tna kt twi ff cv a1 a2 := ⟨_, rfl⟩
  rw [← eM] at hu
  refine hu_W (As := [.ref ob, .int a1, .int a2, .ref out]) (rest := []) ⟨hx, hb, C.hml, C.hown, C.hts⟩ hu (fun rm mc ms q1 q2 q3 q4 => vx_cwSW 4 C.hts gL_law_L_order rfl q1 q2 hd_L_order ⟨Nat.le_trans (Nat.succ_le_succ q3) (Nat.le_of_ble_eq_true rfl), Nat.le_trans (Nat.add_le_add_left q4 _) (Nat.le_of_ble_eq_true rfl)⟩) (LW.ww C w.hP w.hD w.hS w.hLA) C.hXN w.hS w.hLA rfl hl.1 rfl (lv_room (Nat.le_of_ble_eq_true rfl)) dL_law_966 hc (fun g1 H1 locs1 hp hP hD hS => ?_)
  refine lv_istore (lv' := [(5, .int M.2), (0, .ref b), (1, .ref ob), (2, .ref om), (3, .ref out), (4, .int iv)]) hx hb dL_law_969 hl (by decide) rfl (fun ls hl => ?_)
  refine lv_aload_n hx hb dL_law_971 rfl (lv_at hl 3 rfl) ?_
  refine lv_aload_n hx hb dL_law_972 rfl (lv_at hl 1 rfl) ?_
  refine lv_iload hx hb dL_law_973 (lv_at hl 5 rfl) ?_
  refine lv_iconst (v := 1) hx hb dL_law_975 (by decide) ?_
  refine lv_iadd hx hb dL_law_976 ?_
  refine va_sld hx hb C.hX C.hbl hbA hS in1 dL_law_977 ?_
  rw [← ea1]
  refine lv_aload_n hx hb dL_law_978 rfl (lv_at hl 1 rfl) ?_
  refine lv_iload hx hb dL_law_979 (lv_at hl 5 rfl) ?_
  refine lv_iconst (v := 2) hx hb dL_law_981 (by decide) ?_
  refine lv_iadd hx hb dL_law_982 ?_
  refine va_sld hx hb C.hX C.hbl hbA hS in2 dL_law_983 ?_
  rw [← ea2]
  have hM1 := ms_of w.hM hp.2.2.2.1 hp.2.2.2.2.1 hp.2.2.2.2.2
  have hm := c_X3_order l D tys ad L g1 om fz cj (nI N) mvs tna kt twi ff cv a1 a2 w.I.L_om w.I.L_fz w.I.L_cj hM1.1 hM1.2.1 hM1.2.2 w.I.om_fz.symm w.I.om_cj.symm C.htJ C.htZ w.I.kn (d_ord w.I)
  rw [← eM] at hm
  refine mc_V (b := om) (As := [.int a1, .int a2]) (rest := []) ⟨hx, hb, C.hml, C.hown, C.hts⟩ hm (cwV 2 C.hts gL_law_X3_order rfl rfl rfl hd_X3_order ⟨Nat.le_of_ble_eq_true rfl, Nat.le_of_ble_eq_true rfl⟩) (pg_recv C.hK hP w.I.L_om hM1.1 rfl) (LW.ww C hP hD hS w.hLA) C.hXN hS w.hLA rfl hl.1 rfl (lv_room (Nat.le_of_ble_eq_true rfl)) dL_law_984 hc (fun g2 H2 locs2 hp2 hP hD hS => ?_)
  have hM2 := mp_1 (w.I.cells hp.2.1) hM1 hp2.1 hp2.2
  have w2 := w.next hp hM2 (fun q q1 q2 q3 => hp2.2 q q1) hP hD hS
  refine lv_istore (lv' := [(6, .int M.1), (5, .int M.2), (0, .ref b), (1, .ref ob), (2, .ref om), (3, .ref out), (4, .int iv)]) hx hb dL_law_987 hl (by decide) rfl (fun ls hl => ?_)
  refine lv_aload_n hx hb dL_law_989 rfl (lv_at hl 4 rfl) ?_
  refine rc_V (b := om) (r := .int M.2) (As := []) (rest := []) ⟨hx, hb, C.hml, C.hown, C.hts⟩ (c_X3_thrown l D tys ad L g2 om fz cj (nI N) mvs tna M.2 twi ff cv w.I.L_om w.I.L_fz w.I.L_cj hM2.1 hM2.2.1 hM2.2.2 C.htJ C.htZ) (cwV 0 C.hts gL_law_X3_thrown rfl rfl rfl hd_X3_thrown ⟨Nat.le_of_ble_eq_true rfl, Nat.le_of_ble_eq_true rfl⟩) (pg_recv C.hK hP w.I.L_om hM2.1 rfl) (LW.ww C hP hD hS w.hLA) C.hXN rfl hl.1 rfl (lv_room (Nat.le_of_ble_eq_true rfl)) dL_law_990 hc ?_
  refine lv_iload hx hb dL_law_993 (lv_at hl 1 rfl) ?_
  refine lv_icmp_eq (tgt := 1000) hx hb dL_law_995 (by decide) (fun _ => ?_) (fun cn => absurd rfl cn)
  refine lv_iload hx hb dL_law_1000 (lv_at hl 1 rfl) ?_
  refine lv_if_ne (tgt := 1017) hx hb dL_law_1002 (by decide) (fun c0 => ?_) (fun c0 => ?_)
  case refine_1 =>
    refine lv_goto (tgt := 1208) hx hb dL_law_1017 (by decide) ?_
    exact nx _ _ _ _ _ _ _ _ _ _ _ _ _ _ _ w2 (lv_sub hl [2, 3, 4, 5, 6] rfl)
  obtain ⟨fo2, ho2, hr2⟩ := hp.2.2.1
  have hg_out : g2 out = .inl (cyJ, 1, .inr (.inl fo2)) := (hp2.2 out w.I.out_om).trans ho2
  refine lv_aload_n hx hb dL_law_1005 rfl (lv_at hl 5 rfl) ?_
  refine lv_iconst (v := 0) hx hb dL_law_1006 (by decide) ?_
  refine pg_lald hx hb C.hK hP 0 w.I.L_out hg_out C.htJ (by unfold vp_in; decide) dL_law_1007 ?_
  refine lv_iload hx hb dL_law_1008 (lv_at hl 0 rfl) ?_
  refine lv_i2l hx hb dL_law_1010 rfl ?_
  refine pl_eq (tgt := 1017) hx hb dL_law_1011 dL_law_1012 (by decide) (fun _ => ?_) (fun cn => absurd (hr2 c0) cn)
  refine lv_goto (tgt := 1208) hx hb dL_law_1017 (by decide) ?_
  exact nx _ _ _ _ _ _ _ _ _ _ _ _ _ _ _ w2 (lv_sub hl [2, 3, 4, 5, 6] rfl)
set_option maxHeartbeats 1000000 in
set_option maxRecDepth 100000 in
theorem t_back {p : Program} {l : Launch} {e : Env} {s : State} {m : MethodId} {below : List Frame} {meth : Method} {c : Code} {b Lx : Nat} {xs : Nat → Int32} {D : va_G} {tys : List (ClassId × FieldType)} {ad : Nat → Nat} {cyJ cyZ cyN : ClassId} {ob arr out om fz cj : Nat} {L : List Nat} {g : Nat → va_E} {H : Heap} {locs : List Loc} {N : Nat} {kd na : Nat → Nat} {fa : Nat → Option Nat} {ff : Nat → Int32} {cv : Nat → Int64} {mvs tna kt : Int32} {twi : Int64} {iv : Int32} {cells slots : Nat} {Q : State → Prop} {ls : Array Slot} (C : LC p l s m meth c b Lx xs D tys ad cyJ cyZ cyN) (w : LW s D ad cyJ cyZ cyN ob arr out om fz cj L g H locs N kd na fa ff cv mvs tna kt twi) (hl : lv_has ls 8 [(0, .ref b), (1, .ref ob), (2, .ref om), (3, .ref out), (4, .int iv)]) (hin : ∀ k : Int32, (0 ≤ k ∧ k ≤ 5) → vp_in (iv + k) Lx) (hc : cells + 3 ≤ room_1.cells ∧ slots + 20 ≤ room_1.slots) (nx : NX p l e s m below meth c b D ad cyJ cyZ cyN ob arr out om fz cj iv (cells + 3) (slots + 20) Q) : W p l e room_1 s m #[Value.ref b] below meth c H locs cells slots Q (F0 m 1020 ls []) := by
  have hx := C.hx
  have hb := C.hb
  have hbA : ¬ (fun q : Nat => s.heap.size ≤ q) b := Nat.not_le.mpr C.hbl
  have in1 := hin 1 (by decide)
  obtain ⟨a1, ea1⟩ : ∃ z : Int32, z = xs (iv + 1).toNatClampNeg := ⟨_, rfl⟩
  refine lv_aload_n hx hb dL_law_1020 rfl (lv_at hl 1 rfl) ?_
  refine lv_aload_n hx hb dL_law_1021 rfl (lv_at hl 0 rfl) ?_
  refine lv_iload hx hb dL_law_1022 (lv_at hl 4 rfl) ?_
  refine lv_iconst (v := 1) hx hb dL_law_1024 (by decide) ?_
  refine lv_iadd hx hb dL_law_1025 ?_
  refine va_sld hx hb C.hX C.hbl hbA w.hS in1 dL_law_1026 ?_
  rw [← ea1]
  obtain ⟨fo, hO⟩ := w.hO
  have hu := u_back l C.hfl w.I w.hB hO C.htN C.htJ kt a1 (D := D) (om := om) (fz := fz) (cj := cj)
  obtain ⟨M, eM⟩ : ∃ z, z = fX3_back (nI N) mvs tna kt twi ff cv a1 := ⟨_, rfl⟩
  rw [← eM] at hu
  refine hu_W (As := [.ref ob, .int a1]) (rest := []) ⟨hx, hb, C.hml, C.hown, C.hts⟩ hu (fun rm mc ms q1 q2 q3 q4 => vx_cwSW 2 C.hts gL_law_L_back rfl q1 q2 hd_L_back ⟨Nat.le_trans (Nat.succ_le_succ q3) (Nat.le_of_ble_eq_true rfl), Nat.le_trans (Nat.add_le_add_left q4 _) (Nat.le_of_ble_eq_true rfl)⟩) (LW.ww C w.hP w.hD w.hS w.hLA) C.hXN w.hS w.hLA rfl hl.1 rfl (lv_room (Nat.le_of_ble_eq_true rfl)) dL_law_1027 hc (fun g1 H1 locs1 hp hP hD hS => ?_)
  refine lv_istore (lv' := [(5, .int M.2), (0, .ref b), (1, .ref ob), (2, .ref om), (3, .ref out), (4, .int iv)]) hx hb dL_law_1030 hl (by decide) rfl (fun ls hl => ?_)
  refine lv_aload_n hx hb dL_law_1032 rfl (lv_at hl 3 rfl) ?_
  refine lv_aload_n hx hb dL_law_1033 rfl (lv_at hl 1 rfl) ?_
  refine lv_iload hx hb dL_law_1034 (lv_at hl 5 rfl) ?_
  refine lv_iconst (v := 1) hx hb dL_law_1036 (by decide) ?_
  refine lv_iadd hx hb dL_law_1037 ?_
  refine va_sld hx hb C.hX C.hbl hbA hS in1 dL_law_1038 ?_
  rw [← ea1]
  have hM1 := ms_of w.hM hp.2.2.2.1 hp.2.2.2.2.1 hp.2.2.2.2.2
  have hm := c_X3_back l D tys ad L g1 om fz cj (nI N) mvs tna kt twi ff cv a1 w.I.L_om w.I.L_fz w.I.L_cj hM1.1 hM1.2.1 hM1.2.2 w.I.om_cj w.I.om_fz.symm w.I.fz_cj w.I.om_cj.symm C.htJ C.htZ w.I.kn 
  rw [← eM] at hm
  refine mc_V (b := om) (As := [.int a1]) (rest := []) ⟨hx, hb, C.hml, C.hown, C.hts⟩ hm (cwV 1 C.hts gL_law_X3_back rfl rfl rfl hd_X3_back ⟨Nat.le_of_ble_eq_true rfl, Nat.le_of_ble_eq_true rfl⟩) (pg_recv C.hK hP w.I.L_om hM1.1 rfl) (LW.ww C hP hD hS w.hLA) C.hXN hS w.hLA rfl hl.1 rfl (lv_room (Nat.le_of_ble_eq_true rfl)) dL_law_1039 hc (fun g2 H2 locs2 hp2 hP hD hS => ?_)
  have hM2 := mp_2 (w.I.cells hp.2.1) hM1 hp2.1 hp2.2.1 hp2.2.2
  have w2 := w.next hp hM2 (fun q q1 q2 q3 => hp2.2.2 q q1 q3) hP hD hS
  refine lv_aload_n hx hb dL_law_1042 rfl (lv_at hl 3 rfl) ?_
  refine rc_V (b := om) (r := .int M.2) (As := []) (rest := []) ⟨hx, hb, C.hml, C.hown, C.hts⟩ (c_X3_thrown l D tys ad L g2 om fz cj (nI N) mvs tna M.2 twi ff M.1 w.I.L_om w.I.L_fz w.I.L_cj hM2.1 hM2.2.1 hM2.2.2 C.htJ C.htZ) (cwV 0 C.hts gL_law_X3_thrown rfl rfl rfl hd_X3_thrown ⟨Nat.le_of_ble_eq_true rfl, Nat.le_of_ble_eq_true rfl⟩) (pg_recv C.hK hP w.I.L_om hM2.1 rfl) (LW.ww C hP hD hS w.hLA) C.hXN rfl hl.1 rfl (lv_room (Nat.le_of_ble_eq_true rfl)) dL_law_1043 hc ?_
  refine lv_iload hx hb dL_law_1046 (lv_at hl 0 rfl) ?_
  refine lv_icmp_eq (tgt := 1053) hx hb dL_law_1048 (by decide) (fun _ => ?_) (fun cn => absurd rfl cn)
  refine lv_goto (tgt := 1208) hx hb dL_law_1053 (by decide) ?_
  exact nx _ _ _ _ _ _ _ _ _ _ _ _ _ _ _ w2 (lv_sub hl [1, 2, 3, 4, 5] rfl)
set_option maxHeartbeats 1000000 in
set_option maxRecDepth 100000 in
theorem t_tally {p : Program} {l : Launch} {e : Env} {s : State} {m : MethodId} {below : List Frame} {meth : Method} {c : Code} {b Lx : Nat} {xs : Nat → Int32} {D : va_G} {tys : List (ClassId × FieldType)} {ad : Nat → Nat} {cyJ cyZ cyN : ClassId} {ob arr out om fz cj : Nat} {L : List Nat} {g : Nat → va_E} {H : Heap} {locs : List Loc} {N : Nat} {kd na : Nat → Nat} {fa : Nat → Option Nat} {ff : Nat → Int32} {cv : Nat → Int64} {mvs tna kt : Int32} {twi : Int64} {iv : Int32} {cells slots : Nat} {Q : State → Prop} {ls : Array Slot} (C : LC p l s m meth c b Lx xs D tys ad cyJ cyZ cyN) (w : LW s D ad cyJ cyZ cyN ob arr out om fz cj L g H locs N kd na fa ff cv mvs tna kt twi) (hl : lv_has ls 8 [(0, .ref b), (1, .ref ob), (2, .ref om), (3, .ref out), (4, .int iv)]) (hin : ∀ k : Int32, (0 ≤ k ∧ k ≤ 5) → vp_in (iv + k) Lx) (hc : cells + 3 ≤ room_1.cells ∧ slots + 20 ≤ room_1.slots) (nx : NX p l e s m below meth c b D ad cyJ cyZ cyN ob arr out om fz cj iv (cells + 3) (slots + 20) Q) : W p l e room_1 s m #[Value.ref b] below meth c H locs cells slots Q (F0 m 1056 ls []) := by
  have hx := C.hx
  have hb := C.hb
  have hbA : ¬ (fun q : Nat => s.heap.size ≤ q) b := Nat.not_le.mpr C.hbl
  have in1 := hin 1 (by decide)
  obtain ⟨a1, ea1⟩ : ∃ z : Int32, z = xs (iv + 1).toNatClampNeg := ⟨_, rfl⟩
  have in2 := hin 2 (by decide)
  obtain ⟨a2, ea2⟩ : ∃ z : Int32, z = xs (iv + 2).toNatClampNeg := ⟨_, rfl⟩
  have in3 := hin 3 (by decide)
  obtain ⟨a3, ea3⟩ : ∃ z : Int32, z = xs (iv + 3).toNatClampNeg := ⟨_, rfl⟩
  have in4 := hin 4 (by decide)
  obtain ⟨a4, ea4⟩ : ∃ z : Int32, z = xs (iv + 4).toNatClampNeg := ⟨_, rfl⟩
  refine lv_aload_n hx hb dL_law_1056 rfl (lv_at hl 1 rfl) ?_
  refine lv_aload_n hx hb dL_law_1057 rfl (lv_at hl 0 rfl) ?_
  refine lv_iload hx hb dL_law_1058 (lv_at hl 4 rfl) ?_
  refine lv_iconst (v := 1) hx hb dL_law_1060 (by decide) ?_
  refine lv_iadd hx hb dL_law_1061 ?_
  refine va_sld hx hb C.hX C.hbl hbA w.hS in1 dL_law_1062 ?_
  rw [← ea1]
  refine lw_bool hx hb dL_law_1063 dL_law_1066 dL_law_1067 dL_law_1070 ?_
  refine lv_aload_n hx hb dL_law_1071 rfl (lv_at hl 0 rfl) ?_
  refine lv_iload hx hb dL_law_1072 (lv_at hl 4 rfl) ?_
  refine lv_iconst (v := 2) hx hb dL_law_1074 (by decide) ?_
  refine lv_iadd hx hb dL_law_1075 ?_
  refine va_sld hx hb C.hX C.hbl hbA w.hS in2 dL_law_1076 ?_
  rw [← ea2]
  refine lv_aload_n hx hb dL_law_1077 rfl (lv_at hl 0 rfl) ?_
  refine lv_iload hx hb dL_law_1078 (lv_at hl 4 rfl) ?_
  refine lv_iconst (v := 3) hx hb dL_law_1080 (by decide) ?_
  refine lv_iadd hx hb dL_law_1081 ?_
  refine va_sld hx hb C.hX C.hbl hbA w.hS in3 dL_law_1082 ?_
  rw [← ea3]
  refine lv_i2l hx hb dL_law_1083 rfl ?_
  refine lv_bipush (v := 32) hx hb dL_law_1084 (by decide) ?_
  refine lv_lshl hx hb dL_law_1086 rfl ?_
  refine lv_aload_n hx hb dL_law_1087 rfl (lv_at hl 0 rfl) ?_
  refine lv_iload hx hb dL_law_1088 (lv_at hl 4 rfl) ?_
  refine lv_iconst (v := 4) hx hb dL_law_1090 (by decide) ?_
  refine lv_iadd hx hb dL_law_1091 ?_
  refine va_sld hx hb C.hX C.hbl hbA w.hS in4 dL_law_1092 ?_
  rw [← ea4]
  refine lv_i2l hx hb dL_law_1093 rfl ?_
  refine lv_ldc2 (v := 4294967295) hx hb C.hown (C.hts (.constantLong RL 63 4294967295) (by decide +kernel)) dL_law_1094 ?_
  refine lv_land hx hb dL_law_1097 ?_
  refine lv_lor hx hb dL_law_1098 ?_
  refine lv_aload_n hx hb dL_law_1099 rfl (lv_at hl 3 rfl) ?_
  obtain ⟨fo, hO⟩ := w.hO
  have hu := u_tally l C.hfl w.I w.hB hO C.htN C.htJ kt (if a1 = 0 then 0 else 1) a2 (lJ a3 a4) (D := D) (om := om) (fz := fz) (cj := cj)
  obtain ⟨M, eM⟩ : ∃ z, z = fX3_tally (nI N) mvs tna kt twi ff cv (if a1 = 0 then 0 else 1) a2 (lJ a3 a4) := ⟨_, rfl⟩
  rw [← eM] at hu
  refine hu_W (As := [.ref ob, .int (if a1 = 0 then 0 else 1), .int a2, .long (lJ a3 a4), .ref out]) (rest := []) ⟨hx, hb, C.hml, C.hown, C.hts⟩ hu (fun rm mc ms q1 q2 q3 q4 => vx_cwSW 5 C.hts gL_law_L_tally rfl q1 q2 hd_L_tally ⟨Nat.le_trans (Nat.succ_le_succ q3) (Nat.le_of_ble_eq_true rfl), Nat.le_trans (Nat.add_le_add_left q4 _) (Nat.le_of_ble_eq_true rfl)⟩) (LW.ww C w.hP w.hD w.hS w.hLA) C.hXN w.hS w.hLA rfl hl.1 rfl (lv_room (Nat.le_of_ble_eq_true rfl)) dL_law_1100 hc (fun g1 H1 locs1 hp hP hD hS => ?_)
  refine lv_istore (lv' := [(5, .int M.2.2.1), (0, .ref b), (1, .ref ob), (2, .ref om), (3, .ref out), (4, .int iv)]) hx hb dL_law_1103 hl (by decide) rfl (fun ls hl => ?_)
  refine lv_aload_n hx hb dL_law_1105 rfl (lv_at hl 3 rfl) ?_
  refine lv_aload_n hx hb dL_law_1106 rfl (lv_at hl 1 rfl) ?_
  refine lv_iload hx hb dL_law_1107 (lv_at hl 5 rfl) ?_
  refine lv_iconst (v := 1) hx hb dL_law_1109 (by decide) ?_
  refine lv_iadd hx hb dL_law_1110 ?_
  refine va_sld hx hb C.hX C.hbl hbA hS in1 dL_law_1111 ?_
  rw [← ea1]
  refine lw_bool hx hb dL_law_1112 dL_law_1115 dL_law_1116 dL_law_1119 ?_
  refine lv_aload_n hx hb dL_law_1120 rfl (lv_at hl 1 rfl) ?_
  refine lv_iload hx hb dL_law_1121 (lv_at hl 5 rfl) ?_
  refine lv_iconst (v := 2) hx hb dL_law_1123 (by decide) ?_
  refine lv_iadd hx hb dL_law_1124 ?_
  refine va_sld hx hb C.hX C.hbl hbA hS in2 dL_law_1125 ?_
  rw [← ea2]
  refine lv_aload_n hx hb dL_law_1126 rfl (lv_at hl 1 rfl) ?_
  refine lv_iload hx hb dL_law_1127 (lv_at hl 5 rfl) ?_
  refine lv_iconst (v := 3) hx hb dL_law_1129 (by decide) ?_
  refine lv_iadd hx hb dL_law_1130 ?_
  refine va_sld hx hb C.hX C.hbl hbA hS in3 dL_law_1131 ?_
  rw [← ea3]
  refine lv_i2l hx hb dL_law_1132 rfl ?_
  refine lv_bipush (v := 32) hx hb dL_law_1133 (by decide) ?_
  refine lv_lshl hx hb dL_law_1135 rfl ?_
  refine lv_aload_n hx hb dL_law_1136 rfl (lv_at hl 1 rfl) ?_
  refine lv_iload hx hb dL_law_1137 (lv_at hl 5 rfl) ?_
  refine lv_iconst (v := 4) hx hb dL_law_1139 (by decide) ?_
  refine lv_iadd hx hb dL_law_1140 ?_
  refine va_sld hx hb C.hX C.hbl hbA hS in4 dL_law_1141 ?_
  rw [← ea4]
  refine lv_i2l hx hb dL_law_1142 rfl ?_
  refine lv_ldc2 (v := 4294967295) hx hb C.hown (C.hts (.constantLong RL 63 4294967295) (by decide +kernel)) dL_law_1143 ?_
  refine lv_land hx hb dL_law_1146 ?_
  refine lv_lor hx hb dL_law_1147 ?_
  have hM1 := ms_of w.hM hp.2.2.2.1 hp.2.2.2.2.1 hp.2.2.2.2.2
  have hm := c_X3_tally l D tys ad L g1 om fz cj (nI N) mvs tna kt twi ff cv (if a1 = 0 then 0 else 1) a2 (lJ a3 a4) w.I.L_om w.I.L_fz w.I.L_cj hM1.1 hM1.2.1 hM1.2.2 w.I.om_fz.symm w.I.om_cj.symm C.htJ C.htZ 
  rw [← eM] at hm
  refine mc_V (b := om) (As := [.int (if a1 = 0 then 0 else 1), .int a2, .long (lJ a3 a4)]) (rest := []) ⟨hx, hb, C.hml, C.hown, C.hts⟩ hm (cwV 3 C.hts gL_law_X3_tally rfl rfl rfl hd_X3_tally ⟨Nat.le_of_ble_eq_true rfl, Nat.le_of_ble_eq_true rfl⟩) (pg_recv C.hK hP w.I.L_om hM1.1 rfl) (LW.ww C hP hD hS w.hLA) C.hXN hS w.hLA rfl hl.1 rfl (lv_room (Nat.le_of_ble_eq_true rfl)) dL_law_1148 hc (fun g2 H2 locs2 hp2 hP hD hS => ?_)
  have hM2 := mp_1 (w.I.cells hp.2.1) hM1 hp2.1 hp2.2
  have w2 := w.next hp hM2 (fun q q1 q2 q3 => hp2.2 q q1) hP hD hS
  refine lv_lstore (lv' := [(6, .long M.1), (5, .int M.2.2.1), (0, .ref b), (1, .ref ob), (2, .ref om), (3, .ref out), (4, .int iv)]) hx hb dL_law_1151 hl (by decide) rfl (fun ls hl => ?_)
  refine lv_aload_n hx hb dL_law_1153 rfl (lv_at hl 4 rfl) ?_
  refine rc_V (b := om) (r := .int M.2.2.1) (As := []) (rest := []) ⟨hx, hb, C.hml, C.hown, C.hts⟩ (c_X3_thrown l D tys ad L g2 om fz cj (nI N) mvs M.2.1 M.2.2.1 M.2.2.2 ff cv w.I.L_om w.I.L_fz w.I.L_cj hM2.1 hM2.2.1 hM2.2.2 C.htJ C.htZ) (cwV 0 C.hts gL_law_X3_thrown rfl rfl rfl hd_X3_thrown ⟨Nat.le_of_ble_eq_true rfl, Nat.le_of_ble_eq_true rfl⟩) (pg_recv C.hK hP w.I.L_om hM2.1 rfl) (LW.ww C hP hD hS w.hLA) C.hXN rfl hl.1 rfl (lv_room (Nat.le_of_ble_eq_true rfl)) dL_law_1154 hc ?_
  refine lv_iload hx hb dL_law_1157 (lv_at hl 1 rfl) ?_
  refine lv_icmp_eq (tgt := 1164) hx hb dL_law_1159 (by decide) (fun _ => ?_) (fun cn => absurd rfl cn)
  refine lv_iload hx hb dL_law_1164 (lv_at hl 1 rfl) ?_
  refine lv_if_ne (tgt := 1180) hx hb dL_law_1166 (by decide) (fun c0 => ?_) (fun c0 => ?_)
  case refine_1 =>
    refine lv_goto (tgt := 1208) hx hb dL_law_1180 (by decide) ?_
    exact nx _ _ _ _ _ _ _ _ _ _ _ _ _ _ _ w2 (lv_sub hl [2, 3, 4, 5, 6] rfl)
  obtain ⟨fo2, ho2, hr2⟩ := hp.2.2.1
  have hg_out : g2 out = .inl (cyJ, 1, .inr (.inl fo2)) := (hp2.2 out w.I.out_om).trans ho2
  refine lv_aload_n hx hb dL_law_1169 rfl (lv_at hl 5 rfl) ?_
  refine lv_iconst (v := 0) hx hb dL_law_1170 (by decide) ?_
  refine pg_lald hx hb C.hK hP 0 w.I.L_out hg_out C.htJ (by unfold vp_in; decide) dL_law_1171 ?_
  refine lv_lload hx hb dL_law_1172 (lv_at hl 0 rfl) ?_
  refine pl_eq (tgt := 1180) hx hb dL_law_1174 dL_law_1175 (by decide) (fun _ => ?_) (fun cn => absurd (hr2 c0) cn)
  refine lv_goto (tgt := 1208) hx hb dL_law_1180 (by decide) ?_
  exact nx _ _ _ _ _ _ _ _ _ _ _ _ _ _ _ w2 (lv_sub hl [2, 3, 4, 5, 6] rfl)
set_option maxHeartbeats 1000000 in
set_option maxRecDepth 100000 in
theorem t_count {p : Program} {l : Launch} {e : Env} {s : State} {m : MethodId} {below : List Frame} {meth : Method} {c : Code} {b Lx : Nat} {xs : Nat → Int32} {D : va_G} {tys : List (ClassId × FieldType)} {ad : Nat → Nat} {cyJ cyZ cyN : ClassId} {ob arr out om fz cj : Nat} {L : List Nat} {g : Nat → va_E} {H : Heap} {locs : List Loc} {N : Nat} {kd na : Nat → Nat} {fa : Nat → Option Nat} {ff : Nat → Int32} {cv : Nat → Int64} {mvs tna kt : Int32} {twi : Int64} {iv : Int32} {cells slots : Nat} {Q : State → Prop} {ls : Array Slot} (C : LC p l s m meth c b Lx xs D tys ad cyJ cyZ cyN) (w : LW s D ad cyJ cyZ cyN ob arr out om fz cj L g H locs N kd na fa ff cv mvs tna kt twi) (hl : lv_has ls 8 [(0, .ref b), (1, .ref ob), (2, .ref om), (3, .ref out), (4, .int iv)]) (hin : ∀ k : Int32, (0 ≤ k ∧ k ≤ 5) → vp_in (iv + k) Lx) (hc : cells + 3 ≤ room_1.cells ∧ slots + 20 ≤ room_1.slots) (nx : NX p l e s m below meth c b D ad cyJ cyZ cyN ob arr out om fz cj iv (cells + 3) (slots + 20) Q) : W p l e room_1 s m #[Value.ref b] below meth c H locs cells slots Q (F0 m 1183 ls []) := by
  have hx := C.hx
  have hb := C.hb
  have hbA : ¬ (fun q : Nat => s.heap.size ≤ q) b := Nat.not_le.mpr C.hbl
  have in1 := hin 1 (by decide)
  obtain ⟨a1, ea1⟩ : ∃ z : Int32, z = xs (iv + 1).toNatClampNeg := ⟨_, rfl⟩
  refine W.widen (k := cells + 3) (n := slots + 20) (by omega) (by omega) ?_
  refine lv_aload_n hx hb dL_law_1183 rfl (lv_at hl 1 rfl) ?_
  refine lv_aload_n hx hb dL_law_1184 rfl (lv_at hl 0 rfl) ?_
  refine lv_iload hx hb dL_law_1185 (lv_at hl 4 rfl) ?_
  refine lv_iconst (v := 1) hx hb dL_law_1187 (by decide) ?_
  refine lv_iadd hx hb dL_law_1188 ?_
  refine va_sld hx hb C.hX C.hbl hbA w.hS in1 dL_law_1189 ?_
  rw [← ea1]
  refine rc_V (b := ob) (As := [.int a1]) (rest := []) ⟨hx, hb, C.hml, C.hown, C.hts⟩ (c_X2_count l D tys ad L g ob arr (nI N) mvs twi tna fa na kd cv N a1 w.I.hN w.I.L_ob w.I.L_arr w.hB.1 w.hB.2.1 C.htN (fun k hk => ⟨w.I.fa_in k hk, w.I.L_na k hk, w.hB.2.2 k hk, (w.I.kd_ok k (Nat.lt_of_lt_of_le hk w.I.hN)).1⟩) (fun k hk _ => w.I.fa_out k hk)) (cwV 1 C.hts gL_law_X2_count rfl rfl rfl hd_X2_count ⟨Nat.le_of_ble_eq_true rfl, Nat.le_of_ble_eq_true rfl⟩) (pg_recv C.hK w.hP w.I.L_ob w.hB.1 rfl) (LW.ww C w.hP w.hD w.hS w.hLA) C.hXN rfl hl.1 rfl (lv_room (Nat.le_of_ble_eq_true rfl)) dL_law_1190 hc ?_
  refine lv_aload_n hx hb dL_law_1193 rfl (lv_at hl 2 rfl) ?_
  refine lv_aload_n hx hb dL_law_1194 rfl (lv_at hl 0 rfl) ?_
  refine lv_iload hx hb dL_law_1195 (lv_at hl 4 rfl) ?_
  refine lv_iconst (v := 1) hx hb dL_law_1197 (by decide) ?_
  refine lv_iadd hx hb dL_law_1198 ?_
  refine va_sld hx hb C.hX C.hbl hbA w.hS in1 dL_law_1199 ?_
  rw [← ea1]
  refine mc_V (b := om) (As := [.int a1]) (rest := [.int (fX2_count (nI N) mvs (cntN kd cv a1 N) a1)]) ⟨hx, hb, C.hml, C.hown, C.hts⟩ (c_X3_count l D tys ad L g om fz cj (nI N) mvs tna kt twi ff cv N a1 rfl w.I.hN w.I.L_om w.I.L_fz w.I.L_cj w.hM.1 w.hM.2.1 w.hM.2.2 w.I.om_fz.symm w.I.om_cj.symm C.htJ C.htZ) (cwV 1 C.hts gL_law_X3_count rfl rfl rfl hd_X3_count ⟨Nat.le_of_ble_eq_true rfl, Nat.le_of_ble_eq_true rfl⟩) (pg_recv C.hK w.hP w.I.L_om w.hM.1 rfl) (LW.ww C w.hP w.hD w.hS w.hLA) C.hXN w.hS w.hLA rfl hl.1 rfl (lv_room (Nat.le_of_ble_eq_true rfl)) dL_law_1200 hc (fun g2 H2 locs2 hp2 hP hD hS => ?_)
  have hM2 := mp_1 w.I w.hM hp2.1 hp2.2
  obtain ⟨fo, hO⟩ := w.hO
  have hp : HP ad cyJ cyN ob arr out om fz cj N kd na fa twi tna g mvs cv 1 0 g := hp_no w.I w.hB hO n1_ne 0 (fun _ => rfl)
  have w2 := w.next hp hM2 (fun q q1 q2 q3 => hp2.2 q q1) hP hD hS
  refine lv_icmp_eq (tgt := 1208) hx hb dL_law_1203 (by decide) (fun _ => ?_) (fun cn => absurd (count_eq a1 (fun k hk => ⟨(w.I.kd_ok k (Nat.lt_of_lt_of_le hk w.I.hN)).1, (w.I.kd_ok k (Nat.lt_of_lt_of_le hk w.I.hN)).2.1⟩)).symm cn)
  exact nx _ _ _ _ _ _ _ _ _ _ _ _ _ _ _ w2 hl
