theorem hin_X1_X1_init : ∀ w ∈ wsX10, w ∈ wsX1_init := by decide +kernel
set_option maxHeartbeats 1000000 in
set_option maxRecDepth 100000 in
theorem c_X1_init (l : Launch) (D : va_G) (tys : List (ClassId × FieldType)) (ad : Nat → Nat) (L : List Nat) (g : Nat → va_E) (nd : Nat) (i : Nat) (x1 x2 : Int64) (hi : i < 2) (hL_nd : nd ∈ L) (hg_nd : g nd = .inr (1, [.null, .long 0, .long 0, .long 0, .long 0, .long 0, .long 0, .long 0])) : Met l yX1_init wsX1_init ({ frames := 5, cells := 0, slots := 0, locals := 114 }) (PW D tys ad L g [.ref nd, .ref (ad i), .long x1, .long x2]) (QE D tys ad L none (fun g1 => g1 nd = .inr (1, [.ref (ad i), .long x1, .long x2, .long ((fX1_startAgain i x1 x2 0 (kInf i) 0 0 0).1), .long (kInf i), .long ((fX1_startAgain i x1 x2 0 (kInf i) 0 0 0).2.1), .long ((fX1_startAgain i x1 x2 0 (kInf i) 0 0 0).2.2.1), .long ((fX1_startAgain i x1 x2 0 (kInf i) 0 0 0).2.2.2)]) ∧ ∀ q : Nat, q ≠ nd → g1 q = g q)) 0 0 (fun q => q ∈ L) := by
  refine Met.ofW (cc := cX1_init) (maxL := 6) (ret := none) (by decide) rfl ?_
  intro p e s m args below meth c s₁ B hml hv
  obtain ⟨rfl, ⟨hP, hK, hD0, hKC0, hTC⟩, hXN⟩ := hv
  have hin : meth.name = "<init>" := (name_of_methodNamed B.named B.method).1
  have hD : va_D (fun q => q ∈ L) (va_pl L g) := we_D (fun _ h => h) hD0
  have hKC : KC ad (fun q => q ∈ L) s s.heap := hKC0.narrow (fun _ h => Or.inl h)
  have hS : va_S (fun q => q ∈ L) s.heap s.heap [] := va_S.rf
  have hx := B.exec
  have hb := B.bytes
  have hr := B.returns
  have hts := atoms_spec (ws := wsX1_init) B.pre
  have hown : s.vm.findClass RX1 = some m.cls := findClass_of_methodNamed B.named
  have hrs : ∀ q : Nat, q ≠ nd → g q = g q := fun q _ => rfl
  have hl := lv_entry ([.ref nd, .ref (ad i), .long x1, .long x2]) (n := 6) (Nat.le_of_ble_eq_true rfl)
  rw [lg_entry_eq]
  generalize (lg_sl ([.ref nd, .ref (ad i), .long x1, .long x2]) ++ List.replicate (6 - (lg_sl ([.ref nd, .ref (ad i), .long x1, .long x2])).length) Slot.unset).toArray = ls at hl ⊢
  have hl : lv_has ls 6 [(0, .ref nd), (1, .ref (ad i)), (2, .long x1), (4, .long x2)] := hl
  refine lv_aload_n hx hb dX1_init_0 rfl (lv_at hl 0 rfl) ?_
  refine W.objInit hx hb hown (hts (.methodLink RX1 1 objectInit) (by decide +kernel)) (hts (.instanceMethod objectInit) (by decide +kernel)) (hts _ (List.mem_cons_of_mem _ (List.mem_append_left _ (List.mem_append_left _ (List.mem_of_getElem? (i := 2) rfl))))) rfl (by rw [hml]; exact hl.1) rfl dX1_init_1 (Nat.le_of_ble_eq_true rfl) (Nat.le_of_ble_eq_true rfl) ?_
  refine W.eq (g2 := F0 m 4 ls []) rfl ?_
  refine lv_aload_n hx hb dX1_init_4 rfl (lv_at hl 0 rfl) ?_
  refine lv_aload_n hx hb dX1_init_5 rfl (lv_at hl 1 rfl) ?_
  refine pg_putF (ty := (.object "NeedleBoard$Kind")) hx hb hts hin_X1_X1_init tyX1 tyX1_ok nmX1 hown hK hP hD hS hL_nd hg_nd rfl 0 (by decide) (hts (.fieldLink RX1 7 "NeedleBoard$Needle" "kind" "LNeedleBoard$Kind;") (by decide +kernel)) rfl hin rfl (by decide +kernel) rfl rfl (Nat.le_of_ble_eq_true rfl) dX1_init_6 (fun H locs hP hD hS => ?_)
  obtain ⟨g1, eg1⟩ : ∃ z : Nat → va_E, z = va_up g nd (.inr (1, [.ref (ad i), .long 0, .long 0, .long 0, .long 0, .long 0, .long 0, .long 0])) := ⟨_, rfl⟩
  have hP : va_P D vwCl (va_pl L g1) H := by rw [eg1]; exact hP
  have hD : va_D (fun q => q ∈ L) (va_pl L g1) := by rw [eg1]; exact hD
  have hg_nd : g1 nd = .inr (1, [.ref (ad i), .long 0, .long 0, .long 0, .long 0, .long 0, .long 0, .long 0]) := by rw [eg1]; exact va_up_self _ _ _
  have hrs : ∀ q : Nat, q ≠ nd → g1 q = g q := fun q h_nd => (congrFun eg1 q).trans ((va_up_ne _ _ h_nd).trans (hrs q h_nd))
  refine lv_aload_n hx hb dX1_init_9 rfl (lv_at hl 0 rfl) ?_
  refine lv_lload_n hx hb dX1_init_10 rfl (lv_at hl 2 rfl) ?_
  refine pg_putF (ty := .long) hx hb hts hin_X1_X1_init tyX1 tyX1_ok nmX1 hown hK hP hD hS hL_nd hg_nd rfl 1 (by decide) (hts (.fieldLink RX1 13 "NeedleBoard$Needle" "low" "J") (by decide +kernel)) rfl hin rfl (by decide +kernel) rfl rfl (Nat.le_of_ble_eq_true rfl) dX1_init_11 (fun H locs hP hD hS => ?_)
  obtain ⟨g2, eg2⟩ : ∃ z : Nat → va_E, z = va_up g1 nd (.inr (1, [.ref (ad i), .long x1, .long 0, .long 0, .long 0, .long 0, .long 0, .long 0])) := ⟨_, rfl⟩
  have hP : va_P D vwCl (va_pl L g2) H := by rw [eg2]; exact hP
  have hD : va_D (fun q => q ∈ L) (va_pl L g2) := by rw [eg2]; exact hD
  have hg_nd : g2 nd = .inr (1, [.ref (ad i), .long x1, .long 0, .long 0, .long 0, .long 0, .long 0, .long 0]) := by rw [eg2]; exact va_up_self _ _ _
  have hrs : ∀ q : Nat, q ≠ nd → g2 q = g q := fun q h_nd => (congrFun eg2 q).trans ((va_up_ne _ _ h_nd).trans (hrs q h_nd))
  refine lv_aload_n hx hb dX1_init_14 rfl (lv_at hl 0 rfl) ?_
  refine lv_lload hx hb dX1_init_15 (lv_at hl 3 rfl) ?_
  refine pg_putF (ty := .long) hx hb hts hin_X1_X1_init tyX1 tyX1_ok nmX1 hown hK hP hD hS hL_nd hg_nd rfl 2 (by decide) (hts (.fieldLink RX1 17 "NeedleBoard$Needle" "high" "J") (by decide +kernel)) rfl hin rfl (by decide +kernel) rfl rfl (Nat.le_of_ble_eq_true rfl) dX1_init_17 (fun H locs hP hD hS => ?_)
  obtain ⟨g3, eg3⟩ : ∃ z : Nat → va_E, z = va_up g2 nd (.inr (1, [.ref (ad i), .long x1, .long x2, .long 0, .long 0, .long 0, .long 0, .long 0])) := ⟨_, rfl⟩
  have hP : va_P D vwCl (va_pl L g3) H := by rw [eg3]; exact hP
  have hD : va_D (fun q => q ∈ L) (va_pl L g3) := by rw [eg3]; exact hD
  have hg_nd : g3 nd = .inr (1, [.ref (ad i), .long x1, .long x2, .long 0, .long 0, .long 0, .long 0, .long 0]) := by rw [eg3]; exact va_up_self _ _ _
  have hrs : ∀ q : Nat, q ≠ nd → g3 q = g q := fun q h_nd => (congrFun eg3 q).trans ((va_up_ne _ _ h_nd).trans (hrs q h_nd))
  refine lv_aload_n hx hb dX1_init_20 rfl (lv_at hl 0 rfl) ?_
  refine lv_aload_n hx hb dX1_init_21 rfl (lv_at hl 1 rfl) ?_
  refine pk_inf hx hb hKC hi hS hown (hts (.fieldLink RX1 20 RX0 "infinity" "J") (by decide +kernel)) dX1_init_22 ?_
  refine pg_put (ty := .long) hx hb hts hin_X1_X1_init tyX1 tyX1_ok nmX1 hown hK hP hD hS hL_nd hg_nd rfl 4 (by decide) (hts (.fieldLink RX1 25 "NeedleBoard$Needle" "step" "J") (by decide +kernel)) rfl (by decide +kernel) rfl rfl (Nat.le_of_ble_eq_true rfl) dX1_init_25 (fun H locs hP hD hS => ?_)
  obtain ⟨g4, eg4⟩ : ∃ z : Nat → va_E, z = va_up g3 nd (.inr (1, [.ref (ad i), .long x1, .long x2, .long 0, .long (kInf i), .long 0, .long 0, .long 0])) := ⟨_, rfl⟩
  have hP : va_P D vwCl (va_pl L g4) H := by rw [eg4]; exact hP
  have hD : va_D (fun q => q ∈ L) (va_pl L g4) := by rw [eg4]; exact hD
  have hg_nd : g4 nd = .inr (1, [.ref (ad i), .long x1, .long x2, .long 0, .long (kInf i), .long 0, .long 0, .long 0]) := by rw [eg4]; exact va_up_self _ _ _
  have hrs : ∀ q : Nat, q ≠ nd → g4 q = g q := fun q h_nd => (congrFun eg4 q).trans ((va_up_ne _ _ h_nd).trans (hrs q h_nd))
  refine lv_aload_n hx hb dX1_init_28 rfl (lv_at hl 0 rfl) ?_
  refine mc_V (b := nd) (As := []) (rest := []) ⟨hx, hb, hml, hown, hts⟩ (c_X1_startAgain l D tys ad L g4 nd i x1 x2 0 (kInf i) 0 0 0 hi hL_nd hg_nd) (cwV 0 hts gX1_init_X1_startAgain rfl rfl rfl hd_X1_startAgain ⟨Nat.le_of_ble_eq_true rfl, Nat.le_of_ble_eq_true rfl⟩) (pg_recv hK hP hL_nd hg_nd rfl) (fun U hU hvm => WM hP hK hD hKC0 hTC hS hU hvm) hXN hS (fun _ h => h) rfl hl.1 rfl (lv_room (Nat.le_of_ble_eq_true rfl)) dX1_init_29 ⟨Nat.le_of_ble_eq_true rfl, Nat.le_of_ble_eq_true rfl⟩ (fun g5 H locs hp9 hP hD hS => ?_)
  refine W.eq (g2 := F0 m 32 ls []) rfl ?_
  exact W.vret hx hb hr (fun t ht hW => ⟨rfl, ⟨g5, WM hP hK hD hKC0 hTC hS ht hW.alike, hp9.1, fun q hq => (hp9.2 q hq).trans (hrs q hq)⟩, hS.F ht⟩) (fun q h => hS.2.2 q h) dX1_init_32
