def fX3_turn (kn : Int32) (kc : Int32) (kr : Int32) (kt : Int32) (kw : Int64) (ff : Nat → Int32) (cv : Nat → Int64) (x1 : Int32) (x2 : Int64) : Int64 × (Nat → Int64) × Int32 × Int32 :=
  if ((fX3_may kn kc kr kt kw ff cv x1 x2).1) = 0 then
    ((0 : Int64), cv, kc, (fX3_may kn kc kr kt kw ff cv x1 x2).2)
  else
    let v33_2 : Int64 := fX3_get kn kc kr ((fX3_may kn kc kr kt kw ff cv x1 x2).2) kw ff cv x1 (2 : Int32)
    if (fX3_isEndless (ff x1.toNatClampNeg) (fX3_own (ff x1.toNatClampNeg) x2)) = 0 then
      ((fX3_becomes kn kc kr ((fX3_may kn kc kr kt kw ff cv x1 x2).2) kw ff cv x1 (fX3_sum (ff x1.toNatClampNeg) v33_2 (fX3_own (ff x1.toNatClampNeg) x2))).1, (fX3_becomes kn kc kr ((fX3_may kn kc kr kt kw ff cv x1 x2).2) kw ff cv x1 (fX3_sum (ff x1.toNatClampNeg) v33_2 (fX3_own (ff x1.toNatClampNeg) x2))).2.1, (fX3_becomes kn kc kr ((fX3_may kn kc kr kt kw ff cv x1 x2).2) kw ff cv x1 (fX3_sum (ff x1.toNatClampNeg) v33_2 (fX3_own (ff x1.toNatClampNeg) x2))).2.2, (fX3_may kn kc kr kt kw ff cv x1 x2).2)
    else
      if (fX3_isEndless (ff x1.toNatClampNeg) v33_2) = 0 then
        ((fX3_becomes kn kc kr ((fX3_may kn kc kr kt kw ff cv x1 x2).2) kw ff cv x1 (fX3_sum (ff x1.toNatClampNeg) v33_2 (fX3_own (ff x1.toNatClampNeg) x2))).1, (fX3_becomes kn kc kr ((fX3_may kn kc kr kt kw ff cv x1 x2).2) kw ff cv x1 (fX3_sum (ff x1.toNatClampNeg) v33_2 (fX3_own (ff x1.toNatClampNeg) x2))).2.1, (fX3_becomes kn kc kr ((fX3_may kn kc kr kt kw ff cv x1 x2).2) kw ff cv x1 (fX3_sum (ff x1.toNatClampNeg) v33_2 (fX3_own (ff x1.toNatClampNeg) x2))).2.2, (fX3_may kn kc kr kt kw ff cv x1 x2).2)
      else
        if (fX3_own (ff x1.toNatClampNeg) x2) = v33_2 then
          ((fX3_becomes kn kc kr ((fX3_may kn kc kr kt kw ff cv x1 x2).2) kw ff cv x1 (fX3_sum (ff x1.toNatClampNeg) v33_2 (fX3_own (ff x1.toNatClampNeg) x2))).1, (fX3_becomes kn kc kr ((fX3_may kn kc kr kt kw ff cv x1 x2).2) kw ff cv x1 (fX3_sum (ff x1.toNatClampNeg) v33_2 (fX3_own (ff x1.toNatClampNeg) x2))).2.1, (fX3_becomes kn kc kr ((fX3_may kn kc kr kt kw ff cv x1 x2).2) kw ff cv x1 (fX3_sum (ff x1.toNatClampNeg) v33_2 (fX3_own (ff x1.toNatClampNeg) x2))).2.2, (fX3_may kn kc kr kt kw ff cv x1 x2).2)
        else
          ((0 : Int64), cv, kc, (3 : Int32))
theorem hd_X3_turn : yX3_turn.cls = RX3 ∧ yX3_turn.cls ≠ "java/lang/invoke/MethodHandle" ∧ yX3_turn.cls ≠ "java/lang/invoke/VarHandle" ∧ (parseMethodDescriptor yX3_turn.desc).map (fun d => d.parameters.length) = some 2 := by decide +kernel
theorem hin_X3_X3_turn : ∀ w ∈ wsX30, w ∈ wsX3_turn := by decide +kernel
set_option maxHeartbeats 1000000 in
set_option maxRecDepth 100000 in
theorem c_X3_turn (l : Launch) {cyJ : ClassId} {cyZ : ClassId} (D : va_G) (tys : List (ClassId × FieldType)) (ad : Nat → Nat) (L : List Nat) (g : Nat → va_E) (om fz cj : Nat) (kn : Int32) (kc : Int32) (kr : Int32) (kt : Int32) (kw : Int64) (ff : Nat → Int32) (cv : Nat → Int64) (x1 : Int32) (x2 : Int64) (hL_om : om ∈ L) (hL_fz : fz ∈ L) (hL_cj : cj ∈ L) (hg_om : g om = .inr (3, [.ref fz, .ref cj, .int kn, .int kc, .int kr, .int kt, .long kw])) (hg_fz : g fz = .inl (cyZ, 8, .inl ff)) (hg_cj : g cj = .inl (cyJ, 56, .inr (.inl cv))) (ne_om_cj : om ≠ cj) (ne_fz_om : fz ≠ om) (ne_fz_cj : fz ≠ cj) (ne_cj_om : cj ≠ om) (htJ : tys[0]? = some (cyJ, .long)) (htZ : tys[1]? = some (cyZ, .boolean)) (hkn : 0 ≤ kn ∧ kn ≤ 8) (hsm : ∀ a : Int64, a = (cv (((7 : Int32) * x1) + (2 : Int32)).toNatClampNeg) → ¬ (fX3_may kn kc kr kt kw ff cv x1 x2).1 = 0 → (fX3_isEndless (ff x1.toNatClampNeg) (fX3_own (ff x1.toNatClampNeg) x2) = 0 ∨ fX3_isEndless (ff x1.toNatClampNeg) a = 0 ∨ (fX3_own (ff x1.toNatClampNeg) x2) = a) → SumOK (ff x1.toNatClampNeg) a (fX3_own (ff x1.toNatClampNeg) x2)) : Met l yX3_turn wsX3_turn ({ frames := 4, cells := 0, slots := 0, locals := 94 }) (PW D tys ad L g [.ref om, .int x1, .long x2]) (QE D tys ad L (some (.long ((fX3_turn kn kc kr kt kw ff cv x1 x2).1))) (fun g1 => g1 om = .inr (3, [.ref fz, .ref cj, .int kn, .int ((fX3_turn kn kc kr kt kw ff cv x1 x2).2.2.1), .int kr, .int ((fX3_turn kn kc kr kt kw ff cv x1 x2).2.2.2), .long kw]) ∧ g1 cj = .inl (cyJ, 56, .inr (.inl ((fX3_turn kn kc kr kt kw ff cv x1 x2).2.1))) ∧ ∀ q : Nat, q ≠ om → q ≠ cj → g1 q = g q)) 0 0 (fun q => q ∈ L) := by
  refine Met.ofW (cc := cX3_turn) (maxL := 9) (ret := (some .long)) (by decide) rfl ?_
  intro p e s m args below meth c s₁ B hml hv
  obtain ⟨rfl, ⟨hP, hK, hD0, hKC0, hTC⟩, hXN⟩ := hv
  have hP0 := hP
  have hD : va_D (fun q => q ∈ L) (va_pl L g) := we_D (fun _ h => h) hD0
  have hKC : KC ad (fun q => q ∈ L) s s.heap := hKC0.narrow (fun _ h => Or.inl h)
  have hS : va_S (fun q => q ∈ L) s.heap s.heap [] := va_S.rf
  have hx := B.exec
  have hb := B.bytes
  have hr := B.returns
  have hts := atoms_spec (ws := wsX3_turn) B.pre
  have hown : s.vm.findClass RX3 = some m.cls := findClass_of_methodNamed B.named
  have hlocks := B.notSynchronized
  have hrs : ∀ q : Nat, q ≠ om → q ≠ cj → g q = g q := fun q _ _ => rfl
  have hl := lv_entry ([.ref om, .int x1, .long x2]) (n := 9) (Nat.le_of_ble_eq_true rfl)
  rw [lg_entry_eq]
  generalize (lg_sl ([.ref om, .int x1, .long x2]) ++ List.replicate (9 - (lg_sl ([.ref om, .int x1, .long x2])).length) Slot.unset).toArray = ls at hl ⊢
  have hl : lv_has ls 9 [(0, .ref om), (1, .int x1), (2, .long x2)] := hl
  refine lv_aload_n hx hb dX3_turn_0 rfl (lv_at hl 0 rfl) ?_
  refine lv_iload_n hx hb dX3_turn_1 rfl (lv_at hl 1 rfl) ?_
  refine lv_lload_n hx hb dX3_turn_2 rfl (lv_at hl 2 rfl) ?_
  refine mc_V (b := om) (As := [.int x1, .long x2]) (rest := []) ⟨hx, hb, hml, hown, hts⟩ (c_X3_may l D tys ad L g  om fz cj kn kc kr kt kw ff cv x1 x2 hL_om hL_fz hL_cj hg_om hg_fz hg_cj ne_fz_om ne_cj_om htJ htZ hkn) (cwV 2 hts gX3_turn_X3_may rfl rfl rfl hd_X3_may ⟨Nat.le_of_ble_eq_true rfl, Nat.le_of_ble_eq_true rfl⟩) (pg_recv hK hP hL_om hg_om rfl) (fun U hU hvm => WM hP hK hD hKC0 hTC hS hU hvm) hXN hS (fun _ h => h) rfl hl.1 rfl (lv_room (Nat.le_of_ble_eq_true rfl)) dX3_turn_3 ⟨Nat.le_of_ble_eq_true rfl, Nat.le_of_ble_eq_true rfl⟩ (fun g1 H locs hp9 hP hD hS => ?_)
  refine W.eq (g2 := F0 m 6 ls [.int ((fX3_may kn kc kr kt kw ff cv x1 x2).1)]) rfl ?_
  obtain ⟨hn9_om, hr9⟩ := hp9
  have hg_om : g1 om = .inr (3, [.ref fz, .ref cj, .int kn, .int kc, .int kr, .int ((fX3_may kn kc kr kt kw ff cv x1 x2).2), .long kw]) := hn9_om
  have hg_fz : g1 fz = .inl (cyZ, 8, .inl ff) := (hr9 fz ne_fz_om).trans hg_fz
  have hg_cj : g1 cj = .inl (cyJ, 56, .inr (.inl cv)) := (hr9 cj ne_cj_om).trans hg_cj
  have hrs : ∀ q : Nat, q ≠ om → q ≠ cj → g1 q = g q := fun q h_om h_cj => (hr9 q h_om).trans (hrs q h_om h_cj)
  refine lv_if_ne (tgt := 11) hx hb dX3_turn_6 (by decide) (fun c_1 => ?_) (fun c_1 => ?_)
  · refine lv_aload_n hx hb dX3_turn_11 rfl (lv_at hl 0 rfl) ?_
    refine pg_get hx hb hts hin_X3_X3_turn hown hK hP hL_om hg_om rfl 0 (by decide) (hts (.fieldLink RX3 7 "NeedleBoardModel" "isFine" "[Z") (by decide +kernel)) rfl dX3_turn_12 ?_
    refine lv_iload_n hx hb dX3_turn_15 rfl (lv_at hl 1 rfl) ?_
    refine pg_zald hx hb hK hP 1 hL_fz hg_fz htZ (may_in hkn c_1) dX3_turn_16 ?_
    refine lv_istore (lv' := [(4, .int (ff x1.toNatClampNeg)), (0, .ref om), (1, .int x1), (2, .long x2)]) hx hb dX3_turn_17 hl (by decide) rfl (fun ls hl => ?_)
    refine lv_iload hx hb dX3_turn_19 (lv_at hl 0 rfl) ?_
    refine lv_lload_n hx hb dX3_turn_21 rfl (lv_at hl 3 rfl) ?_
    refine pc_0 (As := [.int (ff x1.toNatClampNeg), .long x2]) (rest := []) (r := .long (fX3_own (ff x1.toNatClampNeg) x2)) ⟨hx, hb, hml, hown, hts⟩ (c_X3_own l (ff x1.toNatClampNeg) x2) (va_cwS 2 hts gX3_turn_X3_own rfl rfl rfl hd_X3_own ⟨Nat.le_of_ble_eq_true rfl, Nat.le_of_ble_eq_true rfl⟩) rfl hl.1 rfl (lv_room (Nat.le_of_ble_eq_true rfl)) dX3_turn_22 ⟨Nat.le_of_ble_eq_true rfl, Nat.le_of_ble_eq_true rfl⟩ ?_
    refine lv_lstore (lv' := [(5, .long (fX3_own (ff x1.toNatClampNeg) x2)), (4, .int (ff x1.toNatClampNeg)), (0, .ref om), (1, .int x1), (2, .long x2)]) hx hb dX3_turn_25 hl (by decide) rfl (fun ls hl => ?_)
    refine lv_aload_n hx hb dX3_turn_27 rfl (lv_at hl 2 rfl) ?_
    refine lv_iload_n hx hb dX3_turn_28 rfl (lv_at hl 3 rfl) ?_
    refine lv_iconst (v := 2) hx hb dX3_turn_29 (by decide) ?_
    refine rc_V (b := om) (r := .long (fX3_get kn kc kr ((fX3_may kn kc kr kt kw ff cv x1 x2).2) kw ff cv x1 (2 : Int32))) (As := [.int x1, .int (2 : Int32)]) (rest := []) ⟨hx, hb, hml, hown, hts⟩ (c_X3_get l D tys ad L g1  om fz cj kn kc kr ((fX3_may kn kc kr kt kw ff cv x1 x2).2) kw ff cv x1 (2 : Int32) hL_om hL_fz hL_cj hg_om hg_fz hg_cj htJ htZ (ix_in (may_in hkn c_1) (by unfold vp_in; decide))) (cwV 2 hts gX3_turn_X3_get rfl rfl rfl hd_X3_get ⟨Nat.le_of_ble_eq_true rfl, Nat.le_of_ble_eq_true rfl⟩) (pg_recv hK hP hL_om hg_om rfl) (fun U hU hvm => WM hP hK hD hKC0 hTC hS hU hvm) hXN rfl hl.1 rfl (lv_room (Nat.le_of_ble_eq_true rfl)) dX3_turn_30 ⟨Nat.le_of_ble_eq_true rfl, Nat.le_of_ble_eq_true rfl⟩ ?_
    refine lv_topl (fun v33_2 e_v33_2 => ?_)
    refine lv_lstore (lv' := [(7, .long v33_2), (5, .long (fX3_own (ff x1.toNatClampNeg) x2)), (4, .int (ff x1.toNatClampNeg)), (0, .ref om), (1, .int x1), (2, .long x2)]) hx hb dX3_turn_33 hl (by decide) rfl (fun ls hl => ?_)
    refine lv_iload hx hb dX3_turn_35 (lv_at hl 2 rfl) ?_
    refine lv_lload hx hb dX3_turn_37 (lv_at hl 1 rfl) ?_
    refine pc_0 (As := [.int (ff x1.toNatClampNeg), .long (fX3_own (ff x1.toNatClampNeg) x2)]) (rest := []) (r := .int (fX3_isEndless (ff x1.toNatClampNeg) (fX3_own (ff x1.toNatClampNeg) x2))) ⟨hx, hb, hml, hown, hts⟩ (c_X3_isEndless l (ff x1.toNatClampNeg) (fX3_own (ff x1.toNatClampNeg) x2)) (va_cwS 2 hts gX3_turn_X3_isEndless rfl rfl rfl hd_X3_isEndless ⟨Nat.le_of_ble_eq_true rfl, Nat.le_of_ble_eq_true rfl⟩) rfl hl.1 rfl (lv_room (Nat.le_of_ble_eq_true rfl)) dX3_turn_39 ⟨Nat.le_of_ble_eq_true rfl, Nat.le_of_ble_eq_true rfl⟩ ?_
    refine lv_if_eq (tgt := 70) hx hb dX3_turn_42 (by decide) (fun c_3 => ?_) (fun c_3 => ?_)
    · refine lv_aload_n hx hb dX3_turn_70 rfl (lv_at hl 3 rfl) ?_
      refine lv_iload_n hx hb dX3_turn_71 rfl (lv_at hl 4 rfl) ?_
      refine lv_iload hx hb dX3_turn_72 (lv_at hl 2 rfl) ?_
      refine lv_lload hx hb dX3_turn_74 (lv_at hl 0 rfl) ?_
      refine lv_lload hx hb dX3_turn_76 (lv_at hl 1 rfl) ?_
      refine pc_0 (As := [.int (ff x1.toNatClampNeg), .long v33_2, .long (fX3_own (ff x1.toNatClampNeg) x2)]) (rest := [.int x1, .ref om]) (r := .long (fX3_sum (ff x1.toNatClampNeg) v33_2 (fX3_own (ff x1.toNatClampNeg) x2))) ⟨hx, hb, hml, hown, hts⟩ (c_X3_sum l (ff x1.toNatClampNeg) v33_2 (fX3_own (ff x1.toNatClampNeg) x2) (hsm _ e_v33_2 c_1 (Or.inl c_3)).1 (hsm _ e_v33_2 c_1 (Or.inl c_3)).2) (va_cwS 3 hts gX3_turn_X3_sum rfl rfl rfl hd_X3_sum ⟨Nat.le_of_ble_eq_true rfl, Nat.le_of_ble_eq_true rfl⟩) rfl hl.1 rfl (lv_room (Nat.le_of_ble_eq_true rfl)) dX3_turn_78 ⟨Nat.le_of_ble_eq_true rfl, Nat.le_of_ble_eq_true rfl⟩ ?_
      refine mc_V (b := om) (As := [.int x1, .long (fX3_sum (ff x1.toNatClampNeg) v33_2 (fX3_own (ff x1.toNatClampNeg) x2))]) (rest := []) ⟨hx, hb, hml, hown, hts⟩ (c_X3_becomes l D tys ad L g1  om fz cj kn kc kr ((fX3_may kn kc kr kt kw ff cv x1 x2).2) kw ff cv x1 (fX3_sum (ff x1.toNatClampNeg) v33_2 (fX3_own (ff x1.toNatClampNeg) x2)) hL_om hL_fz hL_cj hg_om hg_fz hg_cj ne_om_cj ne_fz_om ne_fz_cj ne_cj_om htJ htZ (may_in hkn c_1)) (cwV 2 hts gX3_turn_X3_becomes rfl rfl rfl hd_X3_becomes ⟨Nat.le_of_ble_eq_true rfl, Nat.le_of_ble_eq_true rfl⟩) (pg_recv hK hP hL_om hg_om rfl) (fun U hU hvm => WM hP hK hD hKC0 hTC hS hU hvm) hXN hS (fun _ h => h) rfl hl.1 rfl (lv_room (Nat.le_of_ble_eq_true rfl)) dX3_turn_81 ⟨Nat.le_of_ble_eq_true rfl, Nat.le_of_ble_eq_true rfl⟩ (fun g2 H locs hp9 hP hD hS => ?_)
      refine W.eq (g2 := F0 m 84 ls [.long ((fX3_becomes kn kc kr ((fX3_may kn kc kr kt kw ff cv x1 x2).2) kw ff cv x1 (fX3_sum (ff x1.toNatClampNeg) v33_2 (fX3_own (ff x1.toNatClampNeg) x2))).1)]) rfl ?_
      obtain ⟨hn9_om, hn9_cj, hr9⟩ := hp9
      have hg_om : g2 om = .inr (3, [.ref fz, .ref cj, .int kn, .int ((fX3_becomes kn kc kr ((fX3_may kn kc kr kt kw ff cv x1 x2).2) kw ff cv x1 (fX3_sum (ff x1.toNatClampNeg) v33_2 (fX3_own (ff x1.toNatClampNeg) x2))).2.2), .int kr, .int ((fX3_may kn kc kr kt kw ff cv x1 x2).2), .long kw]) := hn9_om
      have hg_fz : g2 fz = .inl (cyZ, 8, .inl ff) := (hr9 fz ne_fz_om ne_fz_cj).trans hg_fz
      have hg_cj : g2 cj = .inl (cyJ, 56, .inr (.inl ((fX3_becomes kn kc kr ((fX3_may kn kc kr kt kw ff cv x1 x2).2) kw ff cv x1 (fX3_sum (ff x1.toNatClampNeg) v33_2 (fX3_own (ff x1.toNatClampNeg) x2))).2.1))) := hn9_cj
      have hrs : ∀ q : Nat, q ≠ om → q ≠ cj → g2 q = g q := fun q h_om h_cj => (hr9 q h_om h_cj).trans (hrs q h_om h_cj)
      have hF : fX3_turn kn kc kr kt kw ff cv x1 x2 = ((fX3_becomes kn kc kr ((fX3_may kn kc kr kt kw ff cv x1 x2).2) kw ff cv x1 (fX3_sum (ff x1.toNatClampNeg) v33_2 (fX3_own (ff x1.toNatClampNeg) x2))).1, (fX3_becomes kn kc kr ((fX3_may kn kc kr kt kw ff cv x1 x2).2) kw ff cv x1 (fX3_sum (ff x1.toNatClampNeg) v33_2 (fX3_own (ff x1.toNatClampNeg) x2))).2.1, (fX3_becomes kn kc kr ((fX3_may kn kc kr kt kw ff cv x1 x2).2) kw ff cv x1 (fX3_sum (ff x1.toNatClampNeg) v33_2 (fX3_own (ff x1.toNatClampNeg) x2))).2.2, (fX3_may kn kc kr kt kw ff cv x1 x2).2) := (by subst e_v33_2; unfold fX3_turn; dsimp only; rw [if_neg c_1, if_pos c_3])
      have hF0 : (fX3_turn kn kc kr kt kw ff cv x1 x2).1 = (fX3_becomes kn kc kr ((fX3_may kn kc kr kt kw ff cv x1 x2).2) kw ff cv x1 (fX3_sum (ff x1.toNatClampNeg) v33_2 (fX3_own (ff x1.toNatClampNeg) x2))).1 := by rw [hF]
      have hF1 : (fX3_turn kn kc kr kt kw ff cv x1 x2).2.1 = (fX3_becomes kn kc kr ((fX3_may kn kc kr kt kw ff cv x1 x2).2) kw ff cv x1 (fX3_sum (ff x1.toNatClampNeg) v33_2 (fX3_own (ff x1.toNatClampNeg) x2))).2.1 := by rw [hF]
      have hF2 : (fX3_turn kn kc kr kt kw ff cv x1 x2).2.2.1 = (fX3_becomes kn kc kr ((fX3_may kn kc kr kt kw ff cv x1 x2).2) kw ff cv x1 (fX3_sum (ff x1.toNatClampNeg) v33_2 (fX3_own (ff x1.toNatClampNeg) x2))).2.2 := by rw [hF]
      have hF3 : (fX3_turn kn kc kr kt kw ff cv x1 x2).2.2.2 = (fX3_may kn kc kr kt kw ff cv x1 x2).2 := by rw [hF]
      exact W.lret hx hb hr (fun t ht hW => ⟨congrArg (fun z => Outcome.returned (some (Value.long z))) hF0.symm, ⟨g2, WM hP hK hD hKC0 hTC hS ht hW.alike, by rw [hF1, hF2, hF3]; exact ⟨hg_om, hg_cj, hrs⟩⟩, hS.F ht⟩) (fun q h => hS.2.2 q h) dX3_turn_84
    · refine lv_iload hx hb dX3_turn_45 (lv_at hl 2 rfl) ?_
      refine lv_lload hx hb dX3_turn_47 (lv_at hl 0 rfl) ?_
      refine pc_0 (As := [.int (ff x1.toNatClampNeg), .long v33_2]) (rest := []) (r := .int (fX3_isEndless (ff x1.toNatClampNeg) v33_2)) ⟨hx, hb, hml, hown, hts⟩ (c_X3_isEndless l (ff x1.toNatClampNeg) v33_2) (va_cwS 2 hts gX3_turn_X3_isEndless rfl rfl rfl hd_X3_isEndless ⟨Nat.le_of_ble_eq_true rfl, Nat.le_of_ble_eq_true rfl⟩) rfl hl.1 rfl (lv_room (Nat.le_of_ble_eq_true rfl)) dX3_turn_49 ⟨Nat.le_of_ble_eq_true rfl, Nat.le_of_ble_eq_true rfl⟩ ?_
      refine lv_if_eq (tgt := 70) hx hb dX3_turn_52 (by decide) (fun c_4 => ?_) (fun c_4 => ?_)
      · refine lv_aload_n hx hb dX3_turn_70 rfl (lv_at hl 3 rfl) ?_
        refine lv_iload_n hx hb dX3_turn_71 rfl (lv_at hl 4 rfl) ?_
        refine lv_iload hx hb dX3_turn_72 (lv_at hl 2 rfl) ?_
        refine lv_lload hx hb dX3_turn_74 (lv_at hl 0 rfl) ?_
        refine lv_lload hx hb dX3_turn_76 (lv_at hl 1 rfl) ?_
        refine pc_0 (As := [.int (ff x1.toNatClampNeg), .long v33_2, .long (fX3_own (ff x1.toNatClampNeg) x2)]) (rest := [.int x1, .ref om]) (r := .long (fX3_sum (ff x1.toNatClampNeg) v33_2 (fX3_own (ff x1.toNatClampNeg) x2))) ⟨hx, hb, hml, hown, hts⟩ (c_X3_sum l (ff x1.toNatClampNeg) v33_2 (fX3_own (ff x1.toNatClampNeg) x2) (hsm _ e_v33_2 c_1 (Or.inr (Or.inl c_4))).1 (hsm _ e_v33_2 c_1 (Or.inr (Or.inl c_4))).2) (va_cwS 3 hts gX3_turn_X3_sum rfl rfl rfl hd_X3_sum ⟨Nat.le_of_ble_eq_true rfl, Nat.le_of_ble_eq_true rfl⟩) rfl hl.1 rfl (lv_room (Nat.le_of_ble_eq_true rfl)) dX3_turn_78 ⟨Nat.le_of_ble_eq_true rfl, Nat.le_of_ble_eq_true rfl⟩ ?_
        refine mc_V (b := om) (As := [.int x1, .long (fX3_sum (ff x1.toNatClampNeg) v33_2 (fX3_own (ff x1.toNatClampNeg) x2))]) (rest := []) ⟨hx, hb, hml, hown, hts⟩ (c_X3_becomes l D tys ad L g1  om fz cj kn kc kr ((fX3_may kn kc kr kt kw ff cv x1 x2).2) kw ff cv x1 (fX3_sum (ff x1.toNatClampNeg) v33_2 (fX3_own (ff x1.toNatClampNeg) x2)) hL_om hL_fz hL_cj hg_om hg_fz hg_cj ne_om_cj ne_fz_om ne_fz_cj ne_cj_om htJ htZ (may_in hkn c_1)) (cwV 2 hts gX3_turn_X3_becomes rfl rfl rfl hd_X3_becomes ⟨Nat.le_of_ble_eq_true rfl, Nat.le_of_ble_eq_true rfl⟩) (pg_recv hK hP hL_om hg_om rfl) (fun U hU hvm => WM hP hK hD hKC0 hTC hS hU hvm) hXN hS (fun _ h => h) rfl hl.1 rfl (lv_room (Nat.le_of_ble_eq_true rfl)) dX3_turn_81 ⟨Nat.le_of_ble_eq_true rfl, Nat.le_of_ble_eq_true rfl⟩ (fun g2 H locs hp9 hP hD hS => ?_)
        refine W.eq (g2 := F0 m 84 ls [.long ((fX3_becomes kn kc kr ((fX3_may kn kc kr kt kw ff cv x1 x2).2) kw ff cv x1 (fX3_sum (ff x1.toNatClampNeg) v33_2 (fX3_own (ff x1.toNatClampNeg) x2))).1)]) rfl ?_
        obtain ⟨hn9_om, hn9_cj, hr9⟩ := hp9
        have hg_om : g2 om = .inr (3, [.ref fz, .ref cj, .int kn, .int ((fX3_becomes kn kc kr ((fX3_may kn kc kr kt kw ff cv x1 x2).2) kw ff cv x1 (fX3_sum (ff x1.toNatClampNeg) v33_2 (fX3_own (ff x1.toNatClampNeg) x2))).2.2), .int kr, .int ((fX3_may kn kc kr kt kw ff cv x1 x2).2), .long kw]) := hn9_om
        have hg_fz : g2 fz = .inl (cyZ, 8, .inl ff) := (hr9 fz ne_fz_om ne_fz_cj).trans hg_fz
        have hg_cj : g2 cj = .inl (cyJ, 56, .inr (.inl ((fX3_becomes kn kc kr ((fX3_may kn kc kr kt kw ff cv x1 x2).2) kw ff cv x1 (fX3_sum (ff x1.toNatClampNeg) v33_2 (fX3_own (ff x1.toNatClampNeg) x2))).2.1))) := hn9_cj
        have hrs : ∀ q : Nat, q ≠ om → q ≠ cj → g2 q = g q := fun q h_om h_cj => (hr9 q h_om h_cj).trans (hrs q h_om h_cj)
        have hF : fX3_turn kn kc kr kt kw ff cv x1 x2 = ((fX3_becomes kn kc kr ((fX3_may kn kc kr kt kw ff cv x1 x2).2) kw ff cv x1 (fX3_sum (ff x1.toNatClampNeg) v33_2 (fX3_own (ff x1.toNatClampNeg) x2))).1, (fX3_becomes kn kc kr ((fX3_may kn kc kr kt kw ff cv x1 x2).2) kw ff cv x1 (fX3_sum (ff x1.toNatClampNeg) v33_2 (fX3_own (ff x1.toNatClampNeg) x2))).2.1, (fX3_becomes kn kc kr ((fX3_may kn kc kr kt kw ff cv x1 x2).2) kw ff cv x1 (fX3_sum (ff x1.toNatClampNeg) v33_2 (fX3_own (ff x1.toNatClampNeg) x2))).2.2, (fX3_may kn kc kr kt kw ff cv x1 x2).2) := (by subst e_v33_2; unfold fX3_turn; dsimp only; rw [if_neg c_1, if_neg c_3, if_pos c_4])
        have hF0 : (fX3_turn kn kc kr kt kw ff cv x1 x2).1 = (fX3_becomes kn kc kr ((fX3_may kn kc kr kt kw ff cv x1 x2).2) kw ff cv x1 (fX3_sum (ff x1.toNatClampNeg) v33_2 (fX3_own (ff x1.toNatClampNeg) x2))).1 := by rw [hF]
        have hF1 : (fX3_turn kn kc kr kt kw ff cv x1 x2).2.1 = (fX3_becomes kn kc kr ((fX3_may kn kc kr kt kw ff cv x1 x2).2) kw ff cv x1 (fX3_sum (ff x1.toNatClampNeg) v33_2 (fX3_own (ff x1.toNatClampNeg) x2))).2.1 := by rw [hF]
        have hF2 : (fX3_turn kn kc kr kt kw ff cv x1 x2).2.2.1 = (fX3_becomes kn kc kr ((fX3_may kn kc kr kt kw ff cv x1 x2).2) kw ff cv x1 (fX3_sum (ff x1.toNatClampNeg) v33_2 (fX3_own (ff x1.toNatClampNeg) x2))).2.2 := by rw [hF]
        have hF3 : (fX3_turn kn kc kr kt kw ff cv x1 x2).2.2.2 = (fX3_may kn kc kr kt kw ff cv x1 x2).2 := by rw [hF]
        exact W.lret hx hb hr (fun t ht hW => ⟨congrArg (fun z => Outcome.returned (some (Value.long z))) hF0.symm, ⟨g2, WM hP hK hD hKC0 hTC hS ht hW.alike, by rw [hF1, hF2, hF3]; exact ⟨hg_om, hg_cj, hrs⟩⟩, hS.F ht⟩) (fun q h => hS.2.2 q h) dX3_turn_84
      · refine lv_lload hx hb dX3_turn_55 (lv_at hl 1 rfl) ?_
        refine lv_lload hx hb dX3_turn_57 (lv_at hl 0 rfl) ?_
        refine pl_eq (tgt := 70) hx hb dX3_turn_59 dX3_turn_60 (by decide) (fun c_5 => ?_) (fun c_5 => ?_)
        · refine lv_aload_n hx hb dX3_turn_70 rfl (lv_at hl 3 rfl) ?_
          refine lv_iload_n hx hb dX3_turn_71 rfl (lv_at hl 4 rfl) ?_
          refine lv_iload hx hb dX3_turn_72 (lv_at hl 2 rfl) ?_
          refine lv_lload hx hb dX3_turn_74 (lv_at hl 0 rfl) ?_
          refine lv_lload hx hb dX3_turn_76 (lv_at hl 1 rfl) ?_
          refine pc_0 (As := [.int (ff x1.toNatClampNeg), .long v33_2, .long (fX3_own (ff x1.toNatClampNeg) x2)]) (rest := [.int x1, .ref om]) (r := .long (fX3_sum (ff x1.toNatClampNeg) v33_2 (fX3_own (ff x1.toNatClampNeg) x2))) ⟨hx, hb, hml, hown, hts⟩ (c_X3_sum l (ff x1.toNatClampNeg) v33_2 (fX3_own (ff x1.toNatClampNeg) x2) (hsm _ e_v33_2 c_1 (Or.inr (Or.inr c_5))).1 (hsm _ e_v33_2 c_1 (Or.inr (Or.inr c_5))).2) (va_cwS 3 hts gX3_turn_X3_sum rfl rfl rfl hd_X3_sum ⟨Nat.le_of_ble_eq_true rfl, Nat.le_of_ble_eq_true rfl⟩) rfl hl.1 rfl (lv_room (Nat.le_of_ble_eq_true rfl)) dX3_turn_78 ⟨Nat.le_of_ble_eq_true rfl, Nat.le_of_ble_eq_true rfl⟩ ?_
          refine mc_V (b := om) (As := [.int x1, .long (fX3_sum (ff x1.toNatClampNeg) v33_2 (fX3_own (ff x1.toNatClampNeg) x2))]) (rest := []) ⟨hx, hb, hml, hown, hts⟩ (c_X3_becomes l D tys ad L g1  om fz cj kn kc kr ((fX3_may kn kc kr kt kw ff cv x1 x2).2) kw ff cv x1 (fX3_sum (ff x1.toNatClampNeg) v33_2 (fX3_own (ff x1.toNatClampNeg) x2)) hL_om hL_fz hL_cj hg_om hg_fz hg_cj ne_om_cj ne_fz_om ne_fz_cj ne_cj_om htJ htZ (may_in hkn c_1)) (cwV 2 hts gX3_turn_X3_becomes rfl rfl rfl hd_X3_becomes ⟨Nat.le_of_ble_eq_true rfl, Nat.le_of_ble_eq_true rfl⟩) (pg_recv hK hP hL_om hg_om rfl) (fun U hU hvm => WM hP hK hD hKC0 hTC hS hU hvm) hXN hS (fun _ h => h) rfl hl.1 rfl (lv_room (Nat.le_of_ble_eq_true rfl)) dX3_turn_81 ⟨Nat.le_of_ble_eq_true rfl, Nat.le_of_ble_eq_true rfl⟩ (fun g2 H locs hp9 hP hD hS => ?_)
          refine W.eq (g2 := F0 m 84 ls [.long ((fX3_becomes kn kc kr ((fX3_may kn kc kr kt kw ff cv x1 x2).2) kw ff cv x1 (fX3_sum (ff x1.toNatClampNeg) v33_2 (fX3_own (ff x1.toNatClampNeg) x2))).1)]) rfl ?_
          obtain ⟨hn9_om, hn9_cj, hr9⟩ := hp9
          have hg_om : g2 om = .inr (3, [.ref fz, .ref cj, .int kn, .int ((fX3_becomes kn kc kr ((fX3_may kn kc kr kt kw ff cv x1 x2).2) kw ff cv x1 (fX3_sum (ff x1.toNatClampNeg) v33_2 (fX3_own (ff x1.toNatClampNeg) x2))).2.2), .int kr, .int ((fX3_may kn kc kr kt kw ff cv x1 x2).2), .long kw]) := hn9_om
          have hg_fz : g2 fz = .inl (cyZ, 8, .inl ff) := (hr9 fz ne_fz_om ne_fz_cj).trans hg_fz
          have hg_cj : g2 cj = .inl (cyJ, 56, .inr (.inl ((fX3_becomes kn kc kr ((fX3_may kn kc kr kt kw ff cv x1 x2).2) kw ff cv x1 (fX3_sum (ff x1.toNatClampNeg) v33_2 (fX3_own (ff x1.toNatClampNeg) x2))).2.1))) := hn9_cj
          have hrs : ∀ q : Nat, q ≠ om → q ≠ cj → g2 q = g q := fun q h_om h_cj => (hr9 q h_om h_cj).trans (hrs q h_om h_cj)
          have hF : fX3_turn kn kc kr kt kw ff cv x1 x2 = ((fX3_becomes kn kc kr ((fX3_may kn kc kr kt kw ff cv x1 x2).2) kw ff cv x1 (fX3_sum (ff x1.toNatClampNeg) v33_2 (fX3_own (ff x1.toNatClampNeg) x2))).1, (fX3_becomes kn kc kr ((fX3_may kn kc kr kt kw ff cv x1 x2).2) kw ff cv x1 (fX3_sum (ff x1.toNatClampNeg) v33_2 (fX3_own (ff x1.toNatClampNeg) x2))).2.1, (fX3_becomes kn kc kr ((fX3_may kn kc kr kt kw ff cv x1 x2).2) kw ff cv x1 (fX3_sum (ff x1.toNatClampNeg) v33_2 (fX3_own (ff x1.toNatClampNeg) x2))).2.2, (fX3_may kn kc kr kt kw ff cv x1 x2).2) := (by subst e_v33_2; unfold fX3_turn; dsimp only; rw [if_neg c_1, if_neg c_3, if_neg c_4, if_pos c_5])
          have hF0 : (fX3_turn kn kc kr kt kw ff cv x1 x2).1 = (fX3_becomes kn kc kr ((fX3_may kn kc kr kt kw ff cv x1 x2).2) kw ff cv x1 (fX3_sum (ff x1.toNatClampNeg) v33_2 (fX3_own (ff x1.toNatClampNeg) x2))).1 := by rw [hF]
          have hF1 : (fX3_turn kn kc kr kt kw ff cv x1 x2).2.1 = (fX3_becomes kn kc kr ((fX3_may kn kc kr kt kw ff cv x1 x2).2) kw ff cv x1 (fX3_sum (ff x1.toNatClampNeg) v33_2 (fX3_own (ff x1.toNatClampNeg) x2))).2.1 := by rw [hF]
          have hF2 : (fX3_turn kn kc kr kt kw ff cv x1 x2).2.2.1 = (fX3_becomes kn kc kr ((fX3_may kn kc kr kt kw ff cv x1 x2).2) kw ff cv x1 (fX3_sum (ff x1.toNatClampNeg) v33_2 (fX3_own (ff x1.toNatClampNeg) x2))).2.2 := by rw [hF]
          have hF3 : (fX3_turn kn kc kr kt kw ff cv x1 x2).2.2.2 = (fX3_may kn kc kr kt kw ff cv x1 x2).2 := by rw [hF]
          exact W.lret hx hb hr (fun t ht hW => ⟨congrArg (fun z => Outcome.returned (some (Value.long z))) hF0.symm, ⟨g2, WM hP hK hD hKC0 hTC hS ht hW.alike, by rw [hF1, hF2, hF3]; exact ⟨hg_om, hg_cj, hrs⟩⟩, hS.F ht⟩) (fun q h => hS.2.2 q h) dX3_turn_84
        · refine lv_aload_n hx hb dX3_turn_63 rfl (lv_at hl 3 rfl) ?_
          refine lv_iconst (v := 3) hx hb dX3_turn_64 (by decide) ?_
          refine pg_put (ty := .int) hx hb hts hin_X3_X3_turn tyX3 tyX3_ok nmX3 hown hK hP hD hS hL_om hg_om rfl 5 (by decide) (hts (.fieldLink RX3 17 "NeedleBoardModel" "thrown" "I") (by decide +kernel)) rfl (by decide +kernel) rfl rfl (Nat.le_of_ble_eq_true rfl) dX3_turn_65 (fun H locs hP hD hS => ?_)
          obtain ⟨g2, eg2⟩ : ∃ z : Nat → va_E, z = va_up g1 om (.inr (3, [.ref fz, .ref cj, .int kn, .int kc, .int kr, .int (3 : Int32), .long kw])) := ⟨_, rfl⟩
          have hP : va_P D vwCl (va_pl L g2) H := by rw [eg2]; exact hP
          have hD : va_D (fun q => q ∈ L) (va_pl L g2) := by rw [eg2]; exact hD
          have hg_om : g2 om = .inr (3, [.ref fz, .ref cj, .int kn, .int kc, .int kr, .int (3 : Int32), .long kw]) := by rw [eg2]; exact va_up_self _ _ _
          have hg_fz : g2 fz = .inl (cyZ, 8, .inl ff) := (congrFun eg2 fz).trans ((va_up_ne _ _ ne_fz_om).trans hg_fz)
          have hg_cj : g2 cj = .inl (cyJ, 56, .inr (.inl cv)) := (congrFun eg2 cj).trans ((va_up_ne _ _ ne_cj_om).trans hg_cj)
          have hrs : ∀ q : Nat, q ≠ om → q ≠ cj → g2 q = g q := fun q h_om h_cj => (congrFun eg2 q).trans ((va_up_ne _ _ h_om).trans (hrs q h_om h_cj))
          refine lv_lconst (v := 0) hx hb dX3_turn_68 (by decide) ?_
          have hF : fX3_turn kn kc kr kt kw ff cv x1 x2 = ((0 : Int64), cv, kc, (3 : Int32)) := (by subst e_v33_2; unfold fX3_turn; dsimp only; rw [if_neg c_1, if_neg c_3, if_neg c_4, if_neg c_5])
          have hF0 : (fX3_turn kn kc kr kt kw ff cv x1 x2).1 = (0 : Int64) := by rw [hF]
          have hF1 : (fX3_turn kn kc kr kt kw ff cv x1 x2).2.1 = cv := by rw [hF]
          have hF2 : (fX3_turn kn kc kr kt kw ff cv x1 x2).2.2.1 = kc := by rw [hF]
          have hF3 : (fX3_turn kn kc kr kt kw ff cv x1 x2).2.2.2 = (3 : Int32) := by rw [hF]
          exact W.lret hx hb hr (fun t ht hW => ⟨congrArg (fun z => Outcome.returned (some (Value.long z))) hF0.symm, ⟨g2, WM hP hK hD hKC0 hTC hS ht hW.alike, by rw [hF1, hF2, hF3]; exact ⟨hg_om, hg_cj, hrs⟩⟩, hS.F ht⟩) (fun q h => hS.2.2 q h) dX3_turn_69
  · refine lv_lconst (v := 0) hx hb dX3_turn_9 (by decide) ?_
    have hF : fX3_turn kn kc kr kt kw ff cv x1 x2 = ((0 : Int64), cv, kc, (fX3_may kn kc kr kt kw ff cv x1 x2).2) := (by unfold fX3_turn; rw [if_pos c_1])
    have hF0 : (fX3_turn kn kc kr kt kw ff cv x1 x2).1 = (0 : Int64) := by rw [hF]
    have hF1 : (fX3_turn kn kc kr kt kw ff cv x1 x2).2.1 = cv := by rw [hF]
    have hF2 : (fX3_turn kn kc kr kt kw ff cv x1 x2).2.2.1 = kc := by rw [hF]
    have hF3 : (fX3_turn kn kc kr kt kw ff cv x1 x2).2.2.2 = (fX3_may kn kc kr kt kw ff cv x1 x2).2 := by rw [hF]
    exact W.lret hx hb hr (fun t ht hW => ⟨congrArg (fun z => Outcome.returned (some (Value.long z))) hF0.symm, ⟨g1, WM hP hK hD hKC0 hTC hS ht hW.alike, by rw [hF1, hF2, hF3]; exact ⟨hg_om, hg_cj, hrs⟩⟩, hS.F ht⟩) (fun q h => hS.2.2 q h) dX3_turn_10
def fX3_pull (kn : Int32) (kc : Int32) (kr : Int32) (kt : Int32) (kw : Int64) (ff : Nat → Int32) (cv : Nat → Int64) (x1 : Int32) (x2 : Int64) : Int32 × (Nat → Int64) × Int32 × Int32 :=
  if ((fX3_may kn kc kr kt kw ff cv x1 x2).1) = 0 then
    ((0 : Int32), cv, kc, (fX3_may kn kc kr kt kw ff cv x1 x2).2)
  else
    let v33_2 : Int64 := fX3_get kn kc kr ((fX3_may kn kc kr kt kw ff cv x1 x2).2) kw ff cv x1 (2 : Int32)
    if (fX3_alike (ff x1.toNatClampNeg) v33_2 (fX3_own (ff x1.toNatClampNeg) x2)) = 0 then
      let v65_4 : Int64 := fX3_sum (ff x1.toNatClampNeg) (fX3_own (ff x1.toNatClampNeg) x2) (fX3_turned (ff x1.toNatClampNeg) v33_2)
      if (fX3_sizeOf (ff x1.toNatClampNeg) v65_4) ≤ (fX3_get kn kc kr ((fX3_may kn kc kr kt kw ff cv x1 x2).2) kw ff cv x1 (3 : Int32)) then
        (fX3_alike (ff x1.toNatClampNeg) ((fX3_becomes kn kc kr ((fX3_may kn kc kr kt kw ff cv x1 x2).2) kw ff cv x1 (fX3_own (ff x1.toNatClampNeg) x2)).1) (fX3_own (ff x1.toNatClampNeg) x2), (fX3_becomes kn kc kr ((fX3_may kn kc kr kt kw ff cv x1 x2).2) kw ff cv x1 (fX3_own (ff x1.toNatClampNeg) x2)).2.1, (fX3_becomes kn kc kr ((fX3_may kn kc kr kt kw ff cv x1 x2).2) kw ff cv x1 (fX3_own (ff x1.toNatClampNeg) x2)).2.2, (fX3_may kn kc kr kt kw ff cv x1 x2).2)
      else
        if (0 : Int64) ≤ v65_4 then
          let v114_7 : Int64 := fX3_sum (ff x1.toNatClampNeg) v33_2 (fX3_sided (ff x1.toNatClampNeg) (fX3_get kn kc kr ((fX3_may kn kc kr kt kw ff cv x1 x2).2) kw ff cv x1 (3 : Int32)) (0 : Int32))
          (fX3_alike (ff x1.toNatClampNeg) ((fX3_becomes kn kc kr ((fX3_may kn kc kr kt kw ff cv x1 x2).2) kw ff cv x1 v114_7).1) (fX3_own (ff x1.toNatClampNeg) x2), (fX3_becomes kn kc kr ((fX3_may kn kc kr kt kw ff cv x1 x2).2) kw ff cv x1 v114_7).2.1, (fX3_becomes kn kc kr ((fX3_may kn kc kr kt kw ff cv x1 x2).2) kw ff cv x1 v114_7).2.2, (fX3_may kn kc kr kt kw ff cv x1 x2).2)
        else
          let v114_8 : Int64 := fX3_sum (ff x1.toNatClampNeg) v33_2 (fX3_sided (ff x1.toNatClampNeg) (fX3_get kn kc kr ((fX3_may kn kc kr kt kw ff cv x1 x2).2) kw ff cv x1 (3 : Int32)) (1 : Int32))
          (fX3_alike (ff x1.toNatClampNeg) ((fX3_becomes kn kc kr ((fX3_may kn kc kr kt kw ff cv x1 x2).2) kw ff cv x1 v114_8).1) (fX3_own (ff x1.toNatClampNeg) x2), (fX3_becomes kn kc kr ((fX3_may kn kc kr kt kw ff cv x1 x2).2) kw ff cv x1 v114_8).2.1, (fX3_becomes kn kc kr ((fX3_may kn kc kr kt kw ff cv x1 x2).2) kw ff cv x1 v114_8).2.2, (fX3_may kn kc kr kt kw ff cv x1 x2).2)
    else
      (fX3_alike (ff x1.toNatClampNeg) ((fX3_becomes kn kc kr ((fX3_may kn kc kr kt kw ff cv x1 x2).2) kw ff cv x1 (fX3_own (ff x1.toNatClampNeg) x2)).1) (fX3_own (ff x1.toNatClampNeg) x2), (fX3_becomes kn kc kr ((fX3_may kn kc kr kt kw ff cv x1 x2).2) kw ff cv x1 (fX3_own (ff x1.toNatClampNeg) x2)).2.1, (fX3_becomes kn kc kr ((fX3_may kn kc kr kt kw ff cv x1 x2).2) kw ff cv x1 (fX3_own (ff x1.toNatClampNeg) x2)).2.2, (fX3_may kn kc kr kt kw ff cv x1 x2).2)
theorem hd_X3_pull : yX3_pull.cls = RX3 ∧ yX3_pull.cls ≠ "java/lang/invoke/MethodHandle" ∧ yX3_pull.cls ≠ "java/lang/invoke/VarHandle" ∧ (parseMethodDescriptor yX3_pull.desc).map (fun d => d.parameters.length) = some 2 := by decide +kernel
theorem hin_X3_X3_pull : ∀ w ∈ wsX30, w ∈ wsX3_pull := by decide +kernel
set_option maxHeartbeats 1000000 in
set_option maxRecDepth 100000 in
theorem c_X3_pull (l : Launch) {cyJ : ClassId} {cyZ : ClassId} (D : va_G) (tys : List (ClassId × FieldType)) (ad : Nat → Nat) (L : List Nat) (g : Nat → va_E) (om fz cj : Nat) (kn : Int32) (kc : Int32) (kr : Int32) (kt : Int32) (kw : Int64) (ff : Nat → Int32) (cv : Nat → Int64) (x1 : Int32) (x2 : Int64) (hL_om : om ∈ L) (hL_fz : fz ∈ L) (hL_cj : cj ∈ L) (hg_om : g om = .inr (3, [.ref fz, .ref cj, .int kn, .int kc, .int kr, .int kt, .long kw])) (hg_fz : g fz = .inl (cyZ, 8, .inl ff)) (hg_cj : g cj = .inl (cyJ, 56, .inr (.inl cv))) (ne_om_cj : om ≠ cj) (ne_fz_om : fz ≠ om) (ne_fz_cj : fz ≠ cj) (ne_cj_om : cj ≠ om) (htJ : tys[0]? = some (cyJ, .long)) (htZ : tys[1]? = some (cyZ, .boolean)) (hkn : 0 ≤ kn ∧ kn ≤ 8) (hs1 : ∀ a : Int64, a = (cv (((7 : Int32) * x1) + (2 : Int32)).toNatClampNeg) → ¬ (fX3_may kn kc kr kt kw ff cv x1 x2).1 = 0 → fX3_alike (ff x1.toNatClampNeg) a (fX3_own (ff x1.toNatClampNeg) x2) = 0 → SumOK (ff x1.toNatClampNeg) (fX3_own (ff x1.toNatClampNeg) x2) (fX3_turned (ff x1.toNatClampNeg) a)) (hs2 : ∀ a w : Int64, a = (cv (((7 : Int32) * x1) + (2 : Int32)).toNatClampNeg) → w = fX3_sum (ff x1.toNatClampNeg) (fX3_own (ff x1.toNatClampNeg) x2) (fX3_turned (ff x1.toNatClampNeg) a) → ¬ (fX3_may kn kc kr kt kw ff cv x1 x2).1 = 0 → fX3_alike (ff x1.toNatClampNeg) a (fX3_own (ff x1.toNatClampNeg) x2) = 0 → ¬ fX3_sizeOf (ff x1.toNatClampNeg) w ≤ (cv (((7 : Int32) * x1) + (3 : Int32)).toNatClampNeg) → ∀ z : Int32, SumOK (ff x1.toNatClampNeg) a (fX3_sided (ff x1.toNatClampNeg) (cv (((7 : Int32) * x1) + (3 : Int32)).toNatClampNeg) z)) : Met l yX3_pull wsX3_pull ({ frames := 4, cells := 0, slots := 0, locals := 94 }) (PW D tys ad L g [.ref om, .int x1, .long x2]) (QE D tys ad L (some (.int ((fX3_pull kn kc kr kt kw ff cv x1 x2).1))) (fun g1 => g1 om = .inr (3, [.ref fz, .ref cj, .int kn, .int ((fX3_pull kn kc kr kt kw ff cv x1 x2).2.2.1), .int kr, .int ((fX3_pull kn kc kr kt kw ff cv x1 x2).2.2.2), .long kw]) ∧ g1 cj = .inl (cyJ, 56, .inr (.inl ((fX3_pull kn kc kr kt kw ff cv x1 x2).2.1))) ∧ ∀ q : Nat, q ≠ om → q ≠ cj → g1 q = g q)) 0 0 (fun q => q ∈ L) := by
  refine Met.ofW (cc := cX3_pull) (maxL := 13) (ret := (some .boolean)) (by decide) rfl ?_
  intro p e s m args below meth c s₁ B hml hv
  obtain ⟨rfl, ⟨hP, hK, hD0, hKC0, hTC⟩, hXN⟩ := hv
  have hP0 := hP
  have hD : va_D (fun q => q ∈ L) (va_pl L g) := we_D (fun _ h => h) hD0
  have hKC : KC ad (fun q => q ∈ L) s s.heap := hKC0.narrow (fun _ h => Or.inl h)
  have hS : va_S (fun q => q ∈ L) s.heap s.heap [] := va_S.rf
  have hx := B.exec
  have hb := B.bytes
  have hr := B.returns
  have hts := atoms_spec (ws := wsX3_pull) B.pre
  have hown : s.vm.findClass RX3 = some m.cls := findClass_of_methodNamed B.named
  have hlocks := B.notSynchronized
  have hrs : ∀ q : Nat, q ≠ om → q ≠ cj → g q = g q := fun q _ _ => rfl
  have hl := lv_entry ([.ref om, .int x1, .long x2]) (n := 13) (Nat.le_of_ble_eq_true rfl)
  rw [lg_entry_eq]
  generalize (lg_sl ([.ref om, .int x1, .long x2]) ++ List.replicate (13 - (lg_sl ([.ref om, .int x1, .long x2])).length) Slot.unset).toArray = ls at hl ⊢
  have hl : lv_has ls 13 [(0, .ref om), (1, .int x1), (2, .long x2)] := hl
  refine lv_aload_n hx hb dX3_pull_0 rfl (lv_at hl 0 rfl) ?_
  refine lv_iload_n hx hb dX3_pull_1 rfl (lv_at hl 1 rfl) ?_
  refine lv_lload_n hx hb dX3_pull_2 rfl (lv_at hl 2 rfl) ?_
  refine mc_V (b := om) (As := [.int x1, .long x2]) (rest := []) ⟨hx, hb, hml, hown, hts⟩ (c_X3_may l D tys ad L g  om fz cj kn kc kr kt kw ff cv x1 x2 hL_om hL_fz hL_cj hg_om hg_fz hg_cj ne_fz_om ne_cj_om htJ htZ hkn) (cwV 2 hts gX3_pull_X3_may rfl rfl rfl hd_X3_may ⟨Nat.le_of_ble_eq_true rfl, Nat.le_of_ble_eq_true rfl⟩) (pg_recv hK hP hL_om hg_om rfl) (fun U hU hvm => WM hP hK hD hKC0 hTC hS hU hvm) hXN hS (fun _ h => h) rfl hl.1 rfl (lv_room (Nat.le_of_ble_eq_true rfl)) dX3_pull_3 ⟨Nat.le_of_ble_eq_true rfl, Nat.le_of_ble_eq_true rfl⟩ (fun g1 H locs hp9 hP hD hS => ?_)
  refine W.eq (g2 := F0 m 6 ls [.int ((fX3_may kn kc kr kt kw ff cv x1 x2).1)]) rfl ?_
  obtain ⟨hn9_om, hr9⟩ := hp9
  have hg_om : g1 om = .inr (3, [.ref fz, .ref cj, .int kn, .int kc, .int kr, .int ((fX3_may kn kc kr kt kw ff cv x1 x2).2), .long kw]) := hn9_om
  have hg_fz : g1 fz = .inl (cyZ, 8, .inl ff) := (hr9 fz ne_fz_om).trans hg_fz
  have hg_cj : g1 cj = .inl (cyJ, 56, .inr (.inl cv)) := (hr9 cj ne_cj_om).trans hg_cj
  have hrs : ∀ q : Nat, q ≠ om → q ≠ cj → g1 q = g q := fun q h_om h_cj => (hr9 q h_om).trans (hrs q h_om h_cj)
  refine lv_if_ne (tgt := 11) hx hb dX3_pull_6 (by decide) (fun c_1 => ?_) (fun c_1 => ?_)
  · refine lv_aload_n hx hb dX3_pull_11 rfl (lv_at hl 0 rfl) ?_
    refine pg_get hx hb hts hin_X3_X3_pull hown hK hP hL_om hg_om rfl 0 (by decide) (hts (.fieldLink RX3 7 "NeedleBoardModel" "isFine" "[Z") (by decide +kernel)) rfl dX3_pull_12 ?_
    refine lv_iload_n hx hb dX3_pull_15 rfl (lv_at hl 1 rfl) ?_
    refine pg_zald hx hb hK hP 1 hL_fz hg_fz htZ (may_in hkn c_1) dX3_pull_16 ?_
    refine lv_istore (lv' := [(4, .int (ff x1.toNatClampNeg)), (0, .ref om), (1, .int x1), (2, .long x2)]) hx hb dX3_pull_17 hl (by decide) rfl (fun ls hl => ?_)
    refine lv_iload hx hb dX3_pull_19 (lv_at hl 0 rfl) ?_
    refine lv_lload_n hx hb dX3_pull_21 rfl (lv_at hl 3 rfl) ?_
    refine pc_0 (As := [.int (ff x1.toNatClampNeg), .long x2]) (rest := []) (r := .long (fX3_own (ff x1.toNatClampNeg) x2)) ⟨hx, hb, hml, hown, hts⟩ (c_X3_own l (ff x1.toNatClampNeg) x2) (va_cwS 2 hts gX3_pull_X3_own rfl rfl rfl hd_X3_own ⟨Nat.le_of_ble_eq_true rfl, Nat.le_of_ble_eq_true rfl⟩) rfl hl.1 rfl (lv_room (Nat.le_of_ble_eq_true rfl)) dX3_pull_22 ⟨Nat.le_of_ble_eq_true rfl, Nat.le_of_ble_eq_true rfl⟩ ?_
    refine lv_lstore (lv' := [(5, .long (fX3_own (ff x1.toNatClampNeg) x2)), (4, .int (ff x1.toNatClampNeg)), (0, .ref om), (1, .int x1), (2, .long x2)]) hx hb dX3_pull_25 hl (by decide) rfl (fun ls hl => ?_)
    refine lv_aload_n hx hb dX3_pull_27 rfl (lv_at hl 2 rfl) ?_
    refine lv_iload_n hx hb dX3_pull_28 rfl (lv_at hl 3 rfl) ?_
    refine lv_iconst (v := 2) hx hb dX3_pull_29 (by decide) ?_
    refine rc_V (b := om) (r := .long (fX3_get kn kc kr ((fX3_may kn kc kr kt kw ff cv x1 x2).2) kw ff cv x1 (2 : Int32))) (As := [.int x1, .int (2 : Int32)]) (rest := []) ⟨hx, hb, hml, hown, hts⟩ (c_X3_get l D tys ad L g1  om fz cj kn kc kr ((fX3_may kn kc kr kt kw ff cv x1 x2).2) kw ff cv x1 (2 : Int32) hL_om hL_fz hL_cj hg_om hg_fz hg_cj htJ htZ (ix_in (may_in hkn c_1) (by unfold vp_in; decide))) (cwV 2 hts gX3_pull_X3_get rfl rfl rfl hd_X3_get ⟨Nat.le_of_ble_eq_true rfl, Nat.le_of_ble_eq_true rfl⟩) (pg_recv hK hP hL_om hg_om rfl) (fun U hU hvm => WM hP hK hD hKC0 hTC hS hU hvm) hXN rfl hl.1 rfl (lv_room (Nat.le_of_ble_eq_true rfl)) dX3_pull_30 ⟨Nat.le_of_ble_eq_true rfl, Nat.le_of_ble_eq_true rfl⟩ ?_
    refine lv_topl (fun v33_2 e_v33_2 => ?_)
    refine lv_lstore (lv' := [(7, .long v33_2), (5, .long (fX3_own (ff x1.toNatClampNeg) x2)), (4, .int (ff x1.toNatClampNeg)), (0, .ref om), (1, .int x1), (2, .long x2)]) hx hb dX3_pull_33 hl (by decide) rfl (fun ls hl => ?_)
    refine lv_lload hx hb dX3_pull_35 (lv_at hl 1 rfl) ?_
    refine lv_lstore (lv' := [(9, .long (fX3_own (ff x1.toNatClampNeg) x2)), (7, .long v33_2), (5, .long (fX3_own (ff x1.toNatClampNeg) x2)), (4, .int (ff x1.toNatClampNeg)), (0, .ref om), (1, .int x1), (2, .long x2)]) hx hb dX3_pull_37 hl (by decide) rfl (fun ls hl => ?_)
    refine lv_iload hx hb dX3_pull_39 (lv_at hl 3 rfl) ?_
    refine lv_lload hx hb dX3_pull_41 (lv_at hl 1 rfl) ?_
    refine lv_lload hx hb dX3_pull_43 (lv_at hl 2 rfl) ?_
    refine pc_0 (As := [.int (ff x1.toNatClampNeg), .long v33_2, .long (fX3_own (ff x1.toNatClampNeg) x2)]) (rest := []) (r := .int (fX3_alike (ff x1.toNatClampNeg) v33_2 (fX3_own (ff x1.toNatClampNeg) x2))) ⟨hx, hb, hml, hown, hts⟩ (c_X3_alike l (ff x1.toNatClampNeg) v33_2 (fX3_own (ff x1.toNatClampNeg) x2)) (va_cwS 3 hts gX3_pull_X3_alike rfl rfl rfl hd_X3_alike ⟨Nat.le_of_ble_eq_true rfl, Nat.le_of_ble_eq_true rfl⟩) rfl hl.1 rfl (lv_room (Nat.le_of_ble_eq_true rfl)) dX3_pull_45 ⟨Nat.le_of_ble_eq_true rfl, Nat.le_of_ble_eq_true rfl⟩ ?_
    refine lv_if_ne (tgt := 116) hx hb dX3_pull_48 (by decide) (fun c_3 => ?_) (fun c_3 => ?_)
    · refine lv_iload hx hb dX3_pull_116 (lv_at hl 3 rfl) ?_
      refine lv_aload_n hx hb dX3_pull_118 rfl (lv_at hl 4 rfl) ?_
      refine lv_iload_n hx hb dX3_pull_119 rfl (lv_at hl 5 rfl) ?_
      refine lv_lload hx hb dX3_pull_120 (lv_at hl 0 rfl) ?_
      refine mc_V (b := om) (As := [.int x1, .long (fX3_own (ff x1.toNatClampNeg) x2)]) (rest := [.int (ff x1.toNatClampNeg)]) ⟨hx, hb, hml, hown, hts⟩ (c_X3_becomes l D tys ad L g1  om fz cj kn kc kr ((fX3_may kn kc kr kt kw ff cv x1 x2).2) kw ff cv x1 (fX3_own (ff x1.toNatClampNeg) x2) hL_om hL_fz hL_cj hg_om hg_fz hg_cj ne_om_cj ne_fz_om ne_fz_cj ne_cj_om htJ htZ (may_in hkn c_1)) (cwV 2 hts gX3_pull_X3_becomes rfl rfl rfl hd_X3_becomes ⟨Nat.le_of_ble_eq_true rfl, Nat.le_of_ble_eq_true rfl⟩) (pg_recv hK hP hL_om hg_om rfl) (fun U hU hvm => WM hP hK hD hKC0 hTC hS hU hvm) hXN hS (fun _ h => h) rfl hl.1 rfl (lv_room (Nat.le_of_ble_eq_true rfl)) dX3_pull_122 ⟨Nat.le_of_ble_eq_true rfl, Nat.le_of_ble_eq_true rfl⟩ (fun g2 H locs hp9 hP hD hS => ?_)
      refine W.eq (g2 := F0 m 125 ls [.long ((fX3_becomes kn kc kr ((fX3_may kn kc kr kt kw ff cv x1 x2).2) kw ff cv x1 (fX3_own (ff x1.toNatClampNeg) x2)).1), .int (ff x1.toNatClampNeg)]) rfl ?_
      obtain ⟨hn9_om, hn9_cj, hr9⟩ := hp9
      have hg_om : g2 om = .inr (3, [.ref fz, .ref cj, .int kn, .int ((fX3_becomes kn kc kr ((fX3_may kn kc kr kt kw ff cv x1 x2).2) kw ff cv x1 (fX3_own (ff x1.toNatClampNeg) x2)).2.2), .int kr, .int ((fX3_may kn kc kr kt kw ff cv x1 x2).2), .long kw]) := hn9_om
      have hg_fz : g2 fz = .inl (cyZ, 8, .inl ff) := (hr9 fz ne_fz_om ne_fz_cj).trans hg_fz
      have hg_cj : g2 cj = .inl (cyJ, 56, .inr (.inl ((fX3_becomes kn kc kr ((fX3_may kn kc kr kt kw ff cv x1 x2).2) kw ff cv x1 (fX3_own (ff x1.toNatClampNeg) x2)).2.1))) := hn9_cj
      have hrs : ∀ q : Nat, q ≠ om → q ≠ cj → g2 q = g q := fun q h_om h_cj => (hr9 q h_om h_cj).trans (hrs q h_om h_cj)
      refine lv_lload hx hb dX3_pull_125 (lv_at hl 2 rfl) ?_
      refine pc_0 (As := [.int (ff x1.toNatClampNeg), .long ((fX3_becomes kn kc kr ((fX3_may kn kc kr kt kw ff cv x1 x2).2) kw ff cv x1 (fX3_own (ff x1.toNatClampNeg) x2)).1), .long (fX3_own (ff x1.toNatClampNeg) x2)]) (rest := []) (r := .int (fX3_alike (ff x1.toNatClampNeg) ((fX3_becomes kn kc kr ((fX3_may kn kc kr kt kw ff cv x1 x2).2) kw ff cv x1 (fX3_own (ff x1.toNatClampNeg) x2)).1) (fX3_own (ff x1.toNatClampNeg) x2))) ⟨hx, hb, hml, hown, hts⟩ (c_X3_alike l (ff x1.toNatClampNeg) ((fX3_becomes kn kc kr ((fX3_may kn kc kr kt kw ff cv x1 x2).2) kw ff cv x1 (fX3_own (ff x1.toNatClampNeg) x2)).1) (fX3_own (ff x1.toNatClampNeg) x2)) (va_cwS 3 hts gX3_pull_X3_alike rfl rfl rfl hd_X3_alike ⟨Nat.le_of_ble_eq_true rfl, Nat.le_of_ble_eq_true rfl⟩) rfl hl.1 rfl (lv_room (Nat.le_of_ble_eq_true rfl)) dX3_pull_127 ⟨Nat.le_of_ble_eq_true rfl, Nat.le_of_ble_eq_true rfl⟩ ?_
      have hF : fX3_pull kn kc kr kt kw ff cv x1 x2 = (fX3_alike (ff x1.toNatClampNeg) ((fX3_becomes kn kc kr ((fX3_may kn kc kr kt kw ff cv x1 x2).2) kw ff cv x1 (fX3_own (ff x1.toNatClampNeg) x2)).1) (fX3_own (ff x1.toNatClampNeg) x2), (fX3_becomes kn kc kr ((fX3_may kn kc kr kt kw ff cv x1 x2).2) kw ff cv x1 (fX3_own (ff x1.toNatClampNeg) x2)).2.1, (fX3_becomes kn kc kr ((fX3_may kn kc kr kt kw ff cv x1 x2).2) kw ff cv x1 (fX3_own (ff x1.toNatClampNeg) x2)).2.2, (fX3_may kn kc kr kt kw ff cv x1 x2).2) := (by subst e_v33_2; unfold fX3_pull; dsimp only; rw [if_neg c_1, if_neg c_3])
      have hF0 : (fX3_pull kn kc kr kt kw ff cv x1 x2).1 = fX3_alike (ff x1.toNatClampNeg) ((fX3_becomes kn kc kr ((fX3_may kn kc kr kt kw ff cv x1 x2).2) kw ff cv x1 (fX3_own (ff x1.toNatClampNeg) x2)).1) (fX3_own (ff x1.toNatClampNeg) x2) := by rw [hF]
      have hF1 : (fX3_pull kn kc kr kt kw ff cv x1 x2).2.1 = (fX3_becomes kn kc kr ((fX3_may kn kc kr kt kw ff cv x1 x2).2) kw ff cv x1 (fX3_own (ff x1.toNatClampNeg) x2)).2.1 := by rw [hF]
      have hF2 : (fX3_pull kn kc kr kt kw ff cv x1 x2).2.2.1 = (fX3_becomes kn kc kr ((fX3_may kn kc kr kt kw ff cv x1 x2).2) kw ff cv x1 (fX3_own (ff x1.toNatClampNeg) x2)).2.2 := by rw [hF]
      have hF3 : (fX3_pull kn kc kr kt kw ff cv x1 x2).2.2.2 = (fX3_may kn kc kr kt kw ff cv x1 x2).2 := by rw [hF]
      exact W.zret hx hb hr (zn_of (bz_X3_alike _ _ _)) (fun t ht hW => ⟨congrArg (fun z => Outcome.returned (some (Value.int z))) hF0.symm, ⟨g2, WM hP hK hD hKC0 hTC hS ht hW.alike, by rw [hF1, hF2, hF3]; exact ⟨hg_om, hg_cj, hrs⟩⟩, hS.F ht⟩) (fun q h => hS.2.2 q h) dX3_pull_130
    · refine lv_iload hx hb dX3_pull_51 (lv_at hl 3 rfl) ?_
      refine lv_lload hx hb dX3_pull_53 (lv_at hl 2 rfl) ?_
      refine lv_iload hx hb dX3_pull_55 (lv_at hl 3 rfl) ?_
      refine lv_lload hx hb dX3_pull_57 (lv_at hl 1 rfl) ?_
      refine pc_0 (As := [.int (ff x1.toNatClampNeg), .long v33_2]) (rest := [.long (fX3_own (ff x1.toNatClampNeg) x2), .int (ff x1.toNatClampNeg)]) (r := .long (fX3_turned (ff x1.toNatClampNeg) v33_2)) ⟨hx, hb, hml, hown, hts⟩ (c_X3_turned l (ff x1.toNatClampNeg) v33_2) (va_cwS 2 hts gX3_pull_X3_turned rfl rfl rfl hd_X3_turned ⟨Nat.le_of_ble_eq_true rfl, Nat.le_of_ble_eq_true rfl⟩) rfl hl.1 rfl (lv_room (Nat.le_of_ble_eq_true rfl)) dX3_pull_59 ⟨Nat.le_of_ble_eq_true rfl, Nat.le_of_ble_eq_true rfl⟩ ?_
      refine pc_0 (As := [.int (ff x1.toNatClampNeg), .long (fX3_own (ff x1.toNatClampNeg) x2), .long (fX3_turned (ff x1.toNatClampNeg) v33_2)]) (rest := []) (r := .long (fX3_sum (ff x1.toNatClampNeg) (fX3_own (ff x1.toNatClampNeg) x2) (fX3_turned (ff x1.toNatClampNeg) v33_2))) ⟨hx, hb, hml, hown, hts⟩ (c_X3_sum l (ff x1.toNatClampNeg) (fX3_own (ff x1.toNatClampNeg) x2) (fX3_turned (ff x1.toNatClampNeg) v33_2) (hs1 _ e_v33_2 c_1 c_3).1 (hs1 _ e_v33_2 c_1 c_3).2) (va_cwS 3 hts gX3_pull_X3_sum rfl rfl rfl hd_X3_sum ⟨Nat.le_of_ble_eq_true rfl, Nat.le_of_ble_eq_true rfl⟩) rfl hl.1 rfl (lv_room (Nat.le_of_ble_eq_true rfl)) dX3_pull_62 ⟨Nat.le_of_ble_eq_true rfl, Nat.le_of_ble_eq_true rfl⟩ ?_
      refine lv_topl (fun v65_4 e_v65_4 => ?_)
      refine lv_lstore (lv' := [(11, .long v65_4), (9, .long (fX3_own (ff x1.toNatClampNeg) x2)), (7, .long v33_2), (5, .long (fX3_own (ff x1.toNatClampNeg) x2)), (4, .int (ff x1.toNatClampNeg)), (0, .ref om), (1, .int x1), (2, .long x2)]) hx hb dX3_pull_65 hl (by decide) rfl (fun ls hl => ?_)
      refine lv_iload hx hb dX3_pull_67 (lv_at hl 4 rfl) ?_
      refine lv_lload hx hb dX3_pull_69 (lv_at hl 0 rfl) ?_
      refine pc_0 (As := [.int (ff x1.toNatClampNeg), .long v65_4]) (rest := []) (r := .long (fX3_sizeOf (ff x1.toNatClampNeg) v65_4)) ⟨hx, hb, hml, hown, hts⟩ (c_X3_sizeOf l (ff x1.toNatClampNeg) v65_4) (va_cwS 2 hts gX3_pull_X3_sizeOf rfl rfl rfl hd_X3_sizeOf ⟨Nat.le_of_ble_eq_true rfl, Nat.le_of_ble_eq_true rfl⟩) rfl hl.1 rfl (lv_room (Nat.le_of_ble_eq_true rfl)) dX3_pull_71 ⟨Nat.le_of_ble_eq_true rfl, Nat.le_of_ble_eq_true rfl⟩ ?_
      refine lv_aload_n hx hb dX3_pull_74 rfl (lv_at hl 5 rfl) ?_
      refine lv_iload_n hx hb dX3_pull_75 rfl (lv_at hl 6 rfl) ?_
      refine lv_iconst (v := 3) hx hb dX3_pull_76 (by decide) ?_
      refine rc_V (b := om) (r := .long (fX3_get kn kc kr ((fX3_may kn kc kr kt kw ff cv x1 x2).2) kw ff cv x1 (3 : Int32))) (As := [.int x1, .int (3 : Int32)]) (rest := [.long (fX3_sizeOf (ff x1.toNatClampNeg) v65_4)]) ⟨hx, hb, hml, hown, hts⟩ (c_X3_get l D tys ad L g1  om fz cj kn kc kr ((fX3_may kn kc kr kt kw ff cv x1 x2).2) kw ff cv x1 (3 : Int32) hL_om hL_fz hL_cj hg_om hg_fz hg_cj htJ htZ (ix_in (may_in hkn c_1) (by unfold vp_in; decide))) (cwV 2 hts gX3_pull_X3_get rfl rfl rfl hd_X3_get ⟨Nat.le_of_ble_eq_true rfl, Nat.le_of_ble_eq_true rfl⟩) (pg_recv hK hP hL_om hg_om rfl) (fun U hU hvm => WM hP hK hD hKC0 hTC hS hU hvm) hXN rfl hl.1 rfl (lv_room (Nat.le_of_ble_eq_true rfl)) dX3_pull_77 ⟨Nat.le_of_ble_eq_true rfl, Nat.le_of_ble_eq_true rfl⟩ ?_
      refine pl_le (tgt := 116) hx hb dX3_pull_80 dX3_pull_81 (by decide) (fun c_5 => ?_) (fun c_5 => ?_)
      · refine lv_iload hx hb dX3_pull_116 (lv_at hl 4 rfl) ?_
        refine lv_aload_n hx hb dX3_pull_118 rfl (lv_at hl 5 rfl) ?_
        refine lv_iload_n hx hb dX3_pull_119 rfl (lv_at hl 6 rfl) ?_
        refine lv_lload hx hb dX3_pull_120 (lv_at hl 1 rfl) ?_
        refine mc_V (b := om) (As := [.int x1, .long (fX3_own (ff x1.toNatClampNeg) x2)]) (rest := [.int (ff x1.toNatClampNeg)]) ⟨hx, hb, hml, hown, hts⟩ (c_X3_becomes l D tys ad L g1  om fz cj kn kc kr ((fX3_may kn kc kr kt kw ff cv x1 x2).2) kw ff cv x1 (fX3_own (ff x1.toNatClampNeg) x2) hL_om hL_fz hL_cj hg_om hg_fz hg_cj ne_om_cj ne_fz_om ne_fz_cj ne_cj_om htJ htZ (may_in hkn c_1)) (cwV 2 hts gX3_pull_X3_becomes rfl rfl rfl hd_X3_becomes ⟨Nat.le_of_ble_eq_true rfl, Nat.le_of_ble_eq_true rfl⟩) (pg_recv hK hP hL_om hg_om rfl) (fun U hU hvm => WM hP hK hD hKC0 hTC hS hU hvm) hXN hS (fun _ h => h) rfl hl.1 rfl (lv_room (Nat.le_of_ble_eq_true rfl)) dX3_pull_122 ⟨Nat.le_of_ble_eq_true rfl, Nat.le_of_ble_eq_true rfl⟩ (fun g2 H locs hp9 hP hD hS => ?_)
        refine W.eq (g2 := F0 m 125 ls [.long ((fX3_becomes kn kc kr ((fX3_may kn kc kr kt kw ff cv x1 x2).2) kw ff cv x1 (fX3_own (ff x1.toNatClampNeg) x2)).1), .int (ff x1.toNatClampNeg)]) rfl ?_
        obtain ⟨hn9_om, hn9_cj, hr9⟩ := hp9
        have hg_om : g2 om = .inr (3, [.ref fz, .ref cj, .int kn, .int ((fX3_becomes kn kc kr ((fX3_may kn kc kr kt kw ff cv x1 x2).2) kw ff cv x1 (fX3_own (ff x1.toNatClampNeg) x2)).2.2), .int kr, .int ((fX3_may kn kc kr kt kw ff cv x1 x2).2), .long kw]) := hn9_om
        have hg_fz : g2 fz = .inl (cyZ, 8, .inl ff) := (hr9 fz ne_fz_om ne_fz_cj).trans hg_fz
        have hg_cj : g2 cj = .inl (cyJ, 56, .inr (.inl ((fX3_becomes kn kc kr ((fX3_may kn kc kr kt kw ff cv x1 x2).2) kw ff cv x1 (fX3_own (ff x1.toNatClampNeg) x2)).2.1))) := hn9_cj
        have hrs : ∀ q : Nat, q ≠ om → q ≠ cj → g2 q = g q := fun q h_om h_cj => (hr9 q h_om h_cj).trans (hrs q h_om h_cj)
        refine lv_lload hx hb dX3_pull_125 (lv_at hl 3 rfl) ?_
        refine pc_0 (As := [.int (ff x1.toNatClampNeg), .long ((fX3_becomes kn kc kr ((fX3_may kn kc kr kt kw ff cv x1 x2).2) kw ff cv x1 (fX3_own (ff x1.toNatClampNeg) x2)).1), .long (fX3_own (ff x1.toNatClampNeg) x2)]) (rest := []) (r := .int (fX3_alike (ff x1.toNatClampNeg) ((fX3_becomes kn kc kr ((fX3_may kn kc kr kt kw ff cv x1 x2).2) kw ff cv x1 (fX3_own (ff x1.toNatClampNeg) x2)).1) (fX3_own (ff x1.toNatClampNeg) x2))) ⟨hx, hb, hml, hown, hts⟩ (c_X3_alike l (ff x1.toNatClampNeg) ((fX3_becomes kn kc kr ((fX3_may kn kc kr kt kw ff cv x1 x2).2) kw ff cv x1 (fX3_own (ff x1.toNatClampNeg) x2)).1) (fX3_own (ff x1.toNatClampNeg) x2)) (va_cwS 3 hts gX3_pull_X3_alike rfl rfl rfl hd_X3_alike ⟨Nat.le_of_ble_eq_true rfl, Nat.le_of_ble_eq_true rfl⟩) rfl hl.1 rfl (lv_room (Nat.le_of_ble_eq_true rfl)) dX3_pull_127 ⟨Nat.le_of_ble_eq_true rfl, Nat.le_of_ble_eq_true rfl⟩ ?_
        have hF : fX3_pull kn kc kr kt kw ff cv x1 x2 = (fX3_alike (ff x1.toNatClampNeg) ((fX3_becomes kn kc kr ((fX3_may kn kc kr kt kw ff cv x1 x2).2) kw ff cv x1 (fX3_own (ff x1.toNatClampNeg) x2)).1) (fX3_own (ff x1.toNatClampNeg) x2), (fX3_becomes kn kc kr ((fX3_may kn kc kr kt kw ff cv x1 x2).2) kw ff cv x1 (fX3_own (ff x1.toNatClampNeg) x2)).2.1, (fX3_becomes kn kc kr ((fX3_may kn kc kr kt kw ff cv x1 x2).2) kw ff cv x1 (fX3_own (ff x1.toNatClampNeg) x2)).2.2, (fX3_may kn kc kr kt kw ff cv x1 x2).2) := (by subst e_v33_2 e_v65_4; unfold fX3_pull; dsimp only; rw [if_neg c_1, if_pos c_3, if_pos c_5])
        have hF0 : (fX3_pull kn kc kr kt kw ff cv x1 x2).1 = fX3_alike (ff x1.toNatClampNeg) ((fX3_becomes kn kc kr ((fX3_may kn kc kr kt kw ff cv x1 x2).2) kw ff cv x1 (fX3_own (ff x1.toNatClampNeg) x2)).1) (fX3_own (ff x1.toNatClampNeg) x2) := by rw [hF]
        have hF1 : (fX3_pull kn kc kr kt kw ff cv x1 x2).2.1 = (fX3_becomes kn kc kr ((fX3_may kn kc kr kt kw ff cv x1 x2).2) kw ff cv x1 (fX3_own (ff x1.toNatClampNeg) x2)).2.1 := by rw [hF]
        have hF2 : (fX3_pull kn kc kr kt kw ff cv x1 x2).2.2.1 = (fX3_becomes kn kc kr ((fX3_may kn kc kr kt kw ff cv x1 x2).2) kw ff cv x1 (fX3_own (ff x1.toNatClampNeg) x2)).2.2 := by rw [hF]
        have hF3 : (fX3_pull kn kc kr kt kw ff cv x1 x2).2.2.2 = (fX3_may kn kc kr kt kw ff cv x1 x2).2 := by rw [hF]
        exact W.zret hx hb hr (zn_of (bz_X3_alike _ _ _)) (fun t ht hW => ⟨congrArg (fun z => Outcome.returned (some (Value.int z))) hF0.symm, ⟨g2, WM hP hK hD hKC0 hTC hS ht hW.alike, by rw [hF1, hF2, hF3]; exact ⟨hg_om, hg_cj, hrs⟩⟩, hS.F ht⟩) (fun q h => hS.2.2 q h) dX3_pull_130
      · refine lv_iload hx hb dX3_pull_84 (lv_at hl 4 rfl) ?_
        refine lv_lload hx hb dX3_pull_86 (lv_at hl 2 rfl) ?_
        refine lv_iload hx hb dX3_pull_88 (lv_at hl 4 rfl) ?_
        refine lv_aload_n hx hb dX3_pull_90 rfl (lv_at hl 5 rfl) ?_
        refine lv_iload_n hx hb dX3_pull_91 rfl (lv_at hl 6 rfl) ?_
        refine lv_iconst (v := 3) hx hb dX3_pull_92 (by decide) ?_
        refine rc_V (b := om) (r := .long (fX3_get kn kc kr ((fX3_may kn kc kr kt kw ff cv x1 x2).2) kw ff cv x1 (3 : Int32))) (As := [.int x1, .int (3 : Int32)]) (rest := [.int (ff x1.toNatClampNeg), .long v33_2, .int (ff x1.toNatClampNeg)]) ⟨hx, hb, hml, hown, hts⟩ (c_X3_get l D tys ad L g1  om fz cj kn kc kr ((fX3_may kn kc kr kt kw ff cv x1 x2).2) kw ff cv x1 (3 : Int32) hL_om hL_fz hL_cj hg_om hg_fz hg_cj htJ htZ (ix_in (may_in hkn c_1) (by unfold vp_in; decide))) (cwV 2 hts gX3_pull_X3_get rfl rfl rfl hd_X3_get ⟨Nat.le_of_ble_eq_true rfl, Nat.le_of_ble_eq_true rfl⟩) (pg_recv hK hP hL_om hg_om rfl) (fun U hU hvm => WM hP hK hD hKC0 hTC hS hU hvm) hXN rfl hl.1 rfl (lv_room (Nat.le_of_ble_eq_true rfl)) dX3_pull_93 ⟨Nat.le_of_ble_eq_true rfl, Nat.le_of_ble_eq_true rfl⟩ ?_
        refine lv_lload hx hb dX3_pull_96 (lv_at hl 0 rfl) ?_
        refine lv_lconst (v := 0) hx hb dX3_pull_98 (by decide) ?_
        refine pl_ge (tgt := 107) hx hb dX3_pull_99 dX3_pull_100 (by decide) (fun c_6 => ?_) (fun c_6 => ?_)
        · refine lv_iconst (v := 0) hx hb dX3_pull_107 (by decide) ?_
          refine pc_0 (As := [.int (ff x1.toNatClampNeg), .long (fX3_get kn kc kr ((fX3_may kn kc kr kt kw ff cv x1 x2).2) kw ff cv x1 (3 : Int32)), .int (0 : Int32)]) (rest := [.long v33_2, .int (ff x1.toNatClampNeg)]) (r := .long (fX3_sided (ff x1.toNatClampNeg) (fX3_get kn kc kr ((fX3_may kn kc kr kt kw ff cv x1 x2).2) kw ff cv x1 (3 : Int32)) (0 : Int32))) ⟨hx, hb, hml, hown, hts⟩ (c_X3_sided l (ff x1.toNatClampNeg) (fX3_get kn kc kr ((fX3_may kn kc kr kt kw ff cv x1 x2).2) kw ff cv x1 (3 : Int32)) (0 : Int32)) (va_cwS 3 hts gX3_pull_X3_sided rfl rfl rfl hd_X3_sided ⟨Nat.le_of_ble_eq_true rfl, Nat.le_of_ble_eq_true rfl⟩) rfl hl.1 rfl (lv_room (Nat.le_of_ble_eq_true rfl)) dX3_pull_108 ⟨Nat.le_of_ble_eq_true rfl, Nat.le_of_ble_eq_true rfl⟩ ?_
          refine pc_0 (As := [.int (ff x1.toNatClampNeg), .long v33_2, .long (fX3_sided (ff x1.toNatClampNeg) (fX3_get kn kc kr ((fX3_may kn kc kr kt kw ff cv x1 x2).2) kw ff cv x1 (3 : Int32)) (0 : Int32))]) (rest := []) (r := .long (fX3_sum (ff x1.toNatClampNeg) v33_2 (fX3_sided (ff x1.toNatClampNeg) (fX3_get kn kc kr ((fX3_may kn kc kr kt kw ff cv x1 x2).2) kw ff cv x1 (3 : Int32)) (0 : Int32)))) ⟨hx, hb, hml, hown, hts⟩ (c_X3_sum l (ff x1.toNatClampNeg) v33_2 (fX3_sided (ff x1.toNatClampNeg) (fX3_get kn kc kr ((fX3_may kn kc kr kt kw ff cv x1 x2).2) kw ff cv x1 (3 : Int32)) (0 : Int32)) (hs2 _ _ e_v33_2 e_v65_4 c_1 c_3 c_5 _).1 (hs2 _ _ e_v33_2 e_v65_4 c_1 c_3 c_5 _).2) (va_cwS 3 hts gX3_pull_X3_sum rfl rfl rfl hd_X3_sum ⟨Nat.le_of_ble_eq_true rfl, Nat.le_of_ble_eq_true rfl⟩) rfl hl.1 rfl (lv_room (Nat.le_of_ble_eq_true rfl)) dX3_pull_111 ⟨Nat.le_of_ble_eq_true rfl, Nat.le_of_ble_eq_true rfl⟩ ?_
          refine lv_topl (fun v114_7 e_v114_7 => ?_)
          refine lv_lstore (lv' := [(9, .long v114_7), (11, .long v65_4), (7, .long v33_2), (5, .long (fX3_own (ff x1.toNatClampNeg) x2)), (4, .int (ff x1.toNatClampNeg)), (0, .ref om), (1, .int x1), (2, .long x2)]) hx hb dX3_pull_114 hl (by decide) rfl (fun ls hl => ?_)
          refine lv_iload hx hb dX3_pull_116 (lv_at hl 4 rfl) ?_
          refine lv_aload_n hx hb dX3_pull_118 rfl (lv_at hl 5 rfl) ?_
          refine lv_iload_n hx hb dX3_pull_119 rfl (lv_at hl 6 rfl) ?_
          refine lv_lload hx hb dX3_pull_120 (lv_at hl 0 rfl) ?_
          refine mc_V (b := om) (As := [.int x1, .long v114_7]) (rest := [.int (ff x1.toNatClampNeg)]) ⟨hx, hb, hml, hown, hts⟩ (c_X3_becomes l D tys ad L g1  om fz cj kn kc kr ((fX3_may kn kc kr kt kw ff cv x1 x2).2) kw ff cv x1 v114_7 hL_om hL_fz hL_cj hg_om hg_fz hg_cj ne_om_cj ne_fz_om ne_fz_cj ne_cj_om htJ htZ (may_in hkn c_1)) (cwV 2 hts gX3_pull_X3_becomes rfl rfl rfl hd_X3_becomes ⟨Nat.le_of_ble_eq_true rfl, Nat.le_of_ble_eq_true rfl⟩) (pg_recv hK hP hL_om hg_om rfl) (fun U hU hvm => WM hP hK hD hKC0 hTC hS hU hvm) hXN hS (fun _ h => h) rfl hl.1 rfl (lv_room (Nat.le_of_ble_eq_true rfl)) dX3_pull_122 ⟨Nat.le_of_ble_eq_true rfl, Nat.le_of_ble_eq_true rfl⟩ (fun g2 H locs hp9 hP hD hS => ?_)
          refine W.eq (g2 := F0 m 125 ls [.long ((fX3_becomes kn kc kr ((fX3_may kn kc kr kt kw ff cv x1 x2).2) kw ff cv x1 v114_7).1), .int (ff x1.toNatClampNeg)]) rfl ?_
          obtain ⟨hn9_om, hn9_cj, hr9⟩ := hp9
          have hg_om : g2 om = .inr (3, [.ref fz, .ref cj, .int kn, .int ((fX3_becomes kn kc kr ((fX3_may kn kc kr kt kw ff cv x1 x2).2) kw ff cv x1 v114_7).2.2), .int kr, .int ((fX3_may kn kc kr kt kw ff cv x1 x2).2), .long kw]) := hn9_om
          have hg_fz : g2 fz = .inl (cyZ, 8, .inl ff) := (hr9 fz ne_fz_om ne_fz_cj).trans hg_fz
          have hg_cj : g2 cj = .inl (cyJ, 56, .inr (.inl ((fX3_becomes kn kc kr ((fX3_may kn kc kr kt kw ff cv x1 x2).2) kw ff cv x1 v114_7).2.1))) := hn9_cj
          have hrs : ∀ q : Nat, q ≠ om → q ≠ cj → g2 q = g q := fun q h_om h_cj => (hr9 q h_om h_cj).trans (hrs q h_om h_cj)
          refine lv_lload hx hb dX3_pull_125 (lv_at hl 3 rfl) ?_
          refine pc_0 (As := [.int (ff x1.toNatClampNeg), .long ((fX3_becomes kn kc kr ((fX3_may kn kc kr kt kw ff cv x1 x2).2) kw ff cv x1 v114_7).1), .long (fX3_own (ff x1.toNatClampNeg) x2)]) (rest := []) (r := .int (fX3_alike (ff x1.toNatClampNeg) ((fX3_becomes kn kc kr ((fX3_may kn kc kr kt kw ff cv x1 x2).2) kw ff cv x1 v114_7).1) (fX3_own (ff x1.toNatClampNeg) x2))) ⟨hx, hb, hml, hown, hts⟩ (c_X3_alike l (ff x1.toNatClampNeg) ((fX3_becomes kn kc kr ((fX3_may kn kc kr kt kw ff cv x1 x2).2) kw ff cv x1 v114_7).1) (fX3_own (ff x1.toNatClampNeg) x2)) (va_cwS 3 hts gX3_pull_X3_alike rfl rfl rfl hd_X3_alike ⟨Nat.le_of_ble_eq_true rfl, Nat.le_of_ble_eq_true rfl⟩) rfl hl.1 rfl (lv_room (Nat.le_of_ble_eq_true rfl)) dX3_pull_127 ⟨Nat.le_of_ble_eq_true rfl, Nat.le_of_ble_eq_true rfl⟩ ?_
          have hF : fX3_pull kn kc kr kt kw ff cv x1 x2 = (fX3_alike (ff x1.toNatClampNeg) ((fX3_becomes kn kc kr ((fX3_may kn kc kr kt kw ff cv x1 x2).2) kw ff cv x1 v114_7).1) (fX3_own (ff x1.toNatClampNeg) x2), (fX3_becomes kn kc kr ((fX3_may kn kc kr kt kw ff cv x1 x2).2) kw ff cv x1 v114_7).2.1, (fX3_becomes kn kc kr ((fX3_may kn kc kr kt kw ff cv x1 x2).2) kw ff cv x1 v114_7).2.2, (fX3_may kn kc kr kt kw ff cv x1 x2).2) := (by subst e_v33_2 e_v65_4 e_v114_7; unfold fX3_pull; dsimp only; rw [if_neg c_1, if_pos c_3, if_neg c_5, if_pos c_6])
          have hF0 : (fX3_pull kn kc kr kt kw ff cv x1 x2).1 = fX3_alike (ff x1.toNatClampNeg) ((fX3_becomes kn kc kr ((fX3_may kn kc kr kt kw ff cv x1 x2).2) kw ff cv x1 v114_7).1) (fX3_own (ff x1.toNatClampNeg) x2) := by rw [hF]
          have hF1 : (fX3_pull kn kc kr kt kw ff cv x1 x2).2.1 = (fX3_becomes kn kc kr ((fX3_may kn kc kr kt kw ff cv x1 x2).2) kw ff cv x1 v114_7).2.1 := by rw [hF]
          have hF2 : (fX3_pull kn kc kr kt kw ff cv x1 x2).2.2.1 = (fX3_becomes kn kc kr ((fX3_may kn kc kr kt kw ff cv x1 x2).2) kw ff cv x1 v114_7).2.2 := by rw [hF]
          have hF3 : (fX3_pull kn kc kr kt kw ff cv x1 x2).2.2.2 = (fX3_may kn kc kr kt kw ff cv x1 x2).2 := by rw [hF]
          exact W.zret hx hb hr (zn_of (bz_X3_alike _ _ _)) (fun t ht hW => ⟨congrArg (fun z => Outcome.returned (some (Value.int z))) hF0.symm, ⟨g2, WM hP hK hD hKC0 hTC hS ht hW.alike, by rw [hF1, hF2, hF3]; exact ⟨hg_om, hg_cj, hrs⟩⟩, hS.F ht⟩) (fun q h => hS.2.2 q h) dX3_pull_130
        · refine lv_iconst (v := 1) hx hb dX3_pull_103 (by decide) ?_
          refine lv_goto (tgt := 108) hx hb dX3_pull_104 (by decide) ?_
          refine pc_0 (As := [.int (ff x1.toNatClampNeg), .long (fX3_get kn kc kr ((fX3_may kn kc kr kt kw ff cv x1 x2).2) kw ff cv x1 (3 : Int32)), .int (1 : Int32)]) (rest := [.long v33_2, .int (ff x1.toNatClampNeg)]) (r := .long (fX3_sided (ff x1.toNatClampNeg) (fX3_get kn kc kr ((fX3_may kn kc kr kt kw ff cv x1 x2).2) kw ff cv x1 (3 : Int32)) (1 : Int32))) ⟨hx, hb, hml, hown, hts⟩ (c_X3_sided l (ff x1.toNatClampNeg) (fX3_get kn kc kr ((fX3_may kn kc kr kt kw ff cv x1 x2).2) kw ff cv x1 (3 : Int32)) (1 : Int32)) (va_cwS 3 hts gX3_pull_X3_sided rfl rfl rfl hd_X3_sided ⟨Nat.le_of_ble_eq_true rfl, Nat.le_of_ble_eq_true rfl⟩) rfl hl.1 rfl (lv_room (Nat.le_of_ble_eq_true rfl)) dX3_pull_108 ⟨Nat.le_of_ble_eq_true rfl, Nat.le_of_ble_eq_true rfl⟩ ?_
          refine pc_0 (As := [.int (ff x1.toNatClampNeg), .long v33_2, .long (fX3_sided (ff x1.toNatClampNeg) (fX3_get kn kc kr ((fX3_may kn kc kr kt kw ff cv x1 x2).2) kw ff cv x1 (3 : Int32)) (1 : Int32))]) (rest := []) (r := .long (fX3_sum (ff x1.toNatClampNeg) v33_2 (fX3_sided (ff x1.toNatClampNeg) (fX3_get kn kc kr ((fX3_may kn kc kr kt kw ff cv x1 x2).2) kw ff cv x1 (3 : Int32)) (1 : Int32)))) ⟨hx, hb, hml, hown, hts⟩ (c_X3_sum l (ff x1.toNatClampNeg) v33_2 (fX3_sided (ff x1.toNatClampNeg) (fX3_get kn kc kr ((fX3_may kn kc kr kt kw ff cv x1 x2).2) kw ff cv x1 (3 : Int32)) (1 : Int32)) (hs2 _ _ e_v33_2 e_v65_4 c_1 c_3 c_5 _).1 (hs2 _ _ e_v33_2 e_v65_4 c_1 c_3 c_5 _).2) (va_cwS 3 hts gX3_pull_X3_sum rfl rfl rfl hd_X3_sum ⟨Nat.le_of_ble_eq_true rfl, Nat.le_of_ble_eq_true rfl⟩) rfl hl.1 rfl (lv_room (Nat.le_of_ble_eq_true rfl)) dX3_pull_111 ⟨Nat.le_of_ble_eq_true rfl, Nat.le_of_ble_eq_true rfl⟩ ?_
          refine lv_topl (fun v114_8 e_v114_8 => ?_)
          refine lv_lstore (lv' := [(9, .long v114_8), (11, .long v65_4), (7, .long v33_2), (5, .long (fX3_own (ff x1.toNatClampNeg) x2)), (4, .int (ff x1.toNatClampNeg)), (0, .ref om), (1, .int x1), (2, .long x2)]) hx hb dX3_pull_114 hl (by decide) rfl (fun ls hl => ?_)
          refine lv_iload hx hb dX3_pull_116 (lv_at hl 4 rfl) ?_
          refine lv_aload_n hx hb dX3_pull_118 rfl (lv_at hl 5 rfl) ?_
          refine lv_iload_n hx hb dX3_pull_119 rfl (lv_at hl 6 rfl) ?_
          refine lv_lload hx hb dX3_pull_120 (lv_at hl 0 rfl) ?_
          refine mc_V (b := om) (As := [.int x1, .long v114_8]) (rest := [.int (ff x1.toNatClampNeg)]) ⟨hx, hb, hml, hown, hts⟩ (c_X3_becomes l D tys ad L g1  om fz cj kn kc kr ((fX3_may kn kc kr kt kw ff cv x1 x2).2) kw ff cv x1 v114_8 hL_om hL_fz hL_cj hg_om hg_fz hg_cj ne_om_cj ne_fz_om ne_fz_cj ne_cj_om htJ htZ (may_in hkn c_1)) (cwV 2 hts gX3_pull_X3_becomes rfl rfl rfl hd_X3_becomes ⟨Nat.le_of_ble_eq_true rfl, Nat.le_of_ble_eq_true rfl⟩) (pg_recv hK hP hL_om hg_om rfl) (fun U hU hvm => WM hP hK hD hKC0 hTC hS hU hvm) hXN hS (fun _ h => h) rfl hl.1 rfl (lv_room (Nat.le_of_ble_eq_true rfl)) dX3_pull_122 ⟨Nat.le_of_ble_eq_true rfl, Nat.le_of_ble_eq_true rfl⟩ (fun g2 H locs hp9 hP hD hS => ?_)
          refine W.eq (g2 := F0 m 125 ls [.long ((fX3_becomes kn kc kr ((fX3_may kn kc kr kt kw ff cv x1 x2).2) kw ff cv x1 v114_8).1), .int (ff x1.toNatClampNeg)]) rfl ?_
          obtain ⟨hn9_om, hn9_cj, hr9⟩ := hp9
          have hg_om : g2 om = .inr (3, [.ref fz, .ref cj, .int kn, .int ((fX3_becomes kn kc kr ((fX3_may kn kc kr kt kw ff cv x1 x2).2) kw ff cv x1 v114_8).2.2), .int kr, .int ((fX3_may kn kc kr kt kw ff cv x1 x2).2), .long kw]) := hn9_om
          have hg_fz : g2 fz = .inl (cyZ, 8, .inl ff) := (hr9 fz ne_fz_om ne_fz_cj).trans hg_fz
          have hg_cj : g2 cj = .inl (cyJ, 56, .inr (.inl ((fX3_becomes kn kc kr ((fX3_may kn kc kr kt kw ff cv x1 x2).2) kw ff cv x1 v114_8).2.1))) := hn9_cj
          have hrs : ∀ q : Nat, q ≠ om → q ≠ cj → g2 q = g q := fun q h_om h_cj => (hr9 q h_om h_cj).trans (hrs q h_om h_cj)
          refine lv_lload hx hb dX3_pull_125 (lv_at hl 3 rfl) ?_
          refine pc_0 (As := [.int (ff x1.toNatClampNeg), .long ((fX3_becomes kn kc kr ((fX3_may kn kc kr kt kw ff cv x1 x2).2) kw ff cv x1 v114_8).1), .long (fX3_own (ff x1.toNatClampNeg) x2)]) (rest := []) (r := .int (fX3_alike (ff x1.toNatClampNeg) ((fX3_becomes kn kc kr ((fX3_may kn kc kr kt kw ff cv x1 x2).2) kw ff cv x1 v114_8).1) (fX3_own (ff x1.toNatClampNeg) x2))) ⟨hx, hb, hml, hown, hts⟩ (c_X3_alike l (ff x1.toNatClampNeg) ((fX3_becomes kn kc kr ((fX3_may kn kc kr kt kw ff cv x1 x2).2) kw ff cv x1 v114_8).1) (fX3_own (ff x1.toNatClampNeg) x2)) (va_cwS 3 hts gX3_pull_X3_alike rfl rfl rfl hd_X3_alike ⟨Nat.le_of_ble_eq_true rfl, Nat.le_of_ble_eq_true rfl⟩) rfl hl.1 rfl (lv_room (Nat.le_of_ble_eq_true rfl)) dX3_pull_127 ⟨Nat.le_of_ble_eq_true rfl, Nat.le_of_ble_eq_true rfl⟩ ?_
          have hF : fX3_pull kn kc kr kt kw ff cv x1 x2 = (fX3_alike (ff x1.toNatClampNeg) ((fX3_becomes kn kc kr ((fX3_may kn kc kr kt kw ff cv x1 x2).2) kw ff cv x1 v114_8).1) (fX3_own (ff x1.toNatClampNeg) x2), (fX3_becomes kn kc kr ((fX3_may kn kc kr kt kw ff cv x1 x2).2) kw ff cv x1 v114_8).2.1, (fX3_becomes kn kc kr ((fX3_may kn kc kr kt kw ff cv x1 x2).2) kw ff cv x1 v114_8).2.2, (fX3_may kn kc kr kt kw ff cv x1 x2).2) := (by subst e_v33_2 e_v65_4 e_v114_8; unfold fX3_pull; dsimp only; rw [if_neg c_1, if_pos c_3, if_neg c_5, if_neg c_6])
          have hF0 : (fX3_pull kn kc kr kt kw ff cv x1 x2).1 = fX3_alike (ff x1.toNatClampNeg) ((fX3_becomes kn kc kr ((fX3_may kn kc kr kt kw ff cv x1 x2).2) kw ff cv x1 v114_8).1) (fX3_own (ff x1.toNatClampNeg) x2) := by rw [hF]
          have hF1 : (fX3_pull kn kc kr kt kw ff cv x1 x2).2.1 = (fX3_becomes kn kc kr ((fX3_may kn kc kr kt kw ff cv x1 x2).2) kw ff cv x1 v114_8).2.1 := by rw [hF]
          have hF2 : (fX3_pull kn kc kr kt kw ff cv x1 x2).2.2.1 = (fX3_becomes kn kc kr ((fX3_may kn kc kr kt kw ff cv x1 x2).2) kw ff cv x1 v114_8).2.2 := by rw [hF]
          have hF3 : (fX3_pull kn kc kr kt kw ff cv x1 x2).2.2.2 = (fX3_may kn kc kr kt kw ff cv x1 x2).2 := by rw [hF]
          exact W.zret hx hb hr (zn_of (bz_X3_alike _ _ _)) (fun t ht hW => ⟨congrArg (fun z => Outcome.returned (some (Value.int z))) hF0.symm, ⟨g2, WM hP hK hD hKC0 hTC hS ht hW.alike, by rw [hF1, hF2, hF3]; exact ⟨hg_om, hg_cj, hrs⟩⟩, hS.F ht⟩) (fun q h => hS.2.2 q h) dX3_pull_130
  · refine lv_iconst (v := 0) hx hb dX3_pull_9 (by decide) ?_
    have hF : fX3_pull kn kc kr kt kw ff cv x1 x2 = ((0 : Int32), cv, kc, (fX3_may kn kc kr kt kw ff cv x1 x2).2) := (by unfold fX3_pull; rw [if_pos c_1])
    have hF0 : (fX3_pull kn kc kr kt kw ff cv x1 x2).1 = (0 : Int32) := by rw [hF]
    have hF1 : (fX3_pull kn kc kr kt kw ff cv x1 x2).2.1 = cv := by rw [hF]
    have hF2 : (fX3_pull kn kc kr kt kw ff cv x1 x2).2.2.1 = kc := by rw [hF]
    have hF3 : (fX3_pull kn kc kr kt kw ff cv x1 x2).2.2.2 = (fX3_may kn kc kr kt kw ff cv x1 x2).2 := by rw [hF]
    exact W.zret hx hb hr (by decide) (fun t ht hW => ⟨congrArg (fun z => Outcome.returned (some (Value.int z))) hF0.symm, ⟨g1, WM hP hK hD hKC0 hTC hS ht hW.alike, by rw [hF1, hF2, hF3]; exact ⟨hg_om, hg_cj, hrs⟩⟩, hS.F ht⟩) (fun q h => hS.2.2 q h) dX3_pull_10
def fX3_rest (kn : Int32) (kc : Int32) (kr : Int32) (kt : Int32) (kw : Int64) (ff : Nat → Int32) (cv : Nat → Int64) (x1 : Int32) (x2 : Int32) : Int64 × (Nat → Int64) × Int32 × Int32 :=
  if ((fX3_isThere kn kc kr kt kw ff cv x1).1) = 0 then
    ((0 : Int64), cv, kc, (fX3_isThere kn kc kr kt kw ff cv x1).2)
  else
    if x2 < 0 then
      ((0 : Int64), cv, kc, (2 : Int32))
    else
      if x2 ≤ (2 : Int32) then
        let v39_4 : Int64 := fX3_get kn kc kr ((fX3_isThere kn kc kr kt kw ff cv x1).2) kw ff cv x1 (2 : Int32)
        let v47_5 : Int64 := fX3_sizeOf (ff x1.toNatClampNeg) v39_4
        if (ff x1.toNatClampNeg) = 0 then
          if (0 : Int64) ≤ v39_4 then
            let v84_8 : UInt64 := fX3_whole (FP.f2d v47_5.toInt32.toUInt32) (0 : Int32) x2
            ((fX3_becomes kn kc kr ((fX3_isThere kn kc kr kt kw ff cv x1).2) kw ff cv x1 (fX3_sided (ff x1.toNatClampNeg) ((fJxf58ca_floatToIntBits_5c35a (FP.d2f v84_8)).toInt64) (0 : Int32))).1, (fX3_becomes kn kc kr ((fX3_isThere kn kc kr kt kw ff cv x1).2) kw ff cv x1 (fX3_sided (ff x1.toNatClampNeg) ((fJxf58ca_floatToIntBits_5c35a (FP.d2f v84_8)).toInt64) (0 : Int32))).2.1, (fX3_becomes kn kc kr ((fX3_isThere kn kc kr kt kw ff cv x1).2) kw ff cv x1 (fX3_sided (ff x1.toNatClampNeg) ((fJxf58ca_floatToIntBits_5c35a (FP.d2f v84_8)).toInt64) (0 : Int32))).2.2, (fX3_isThere kn kc kr kt kw ff cv x1).2)
          else
            let v84_9 : UInt64 := fX3_whole (FP.f2d v47_5.toInt32.toUInt32) (1 : Int32) x2
            ((fX3_becomes kn kc kr ((fX3_isThere kn kc kr kt kw ff cv x1).2) kw ff cv x1 (fX3_sided (ff x1.toNatClampNeg) ((fJxf58ca_floatToIntBits_5c35a (FP.d2f v84_9)).toInt64) (1 : Int32))).1, (fX3_becomes kn kc kr ((fX3_isThere kn kc kr kt kw ff cv x1).2) kw ff cv x1 (fX3_sided (ff x1.toNatClampNeg) ((fJxf58ca_floatToIntBits_5c35a (FP.d2f v84_9)).toInt64) (1 : Int32))).2.1, (fX3_becomes kn kc kr ((fX3_isThere kn kc kr kt kw ff cv x1).2) kw ff cv x1 (fX3_sided (ff x1.toNatClampNeg) ((fJxf58ca_floatToIntBits_5c35a (FP.d2f v84_9)).toInt64) (1 : Int32))).2.2, (fX3_isThere kn kc kr kt kw ff cv x1).2)
        else
          if (0 : Int64) ≤ v39_4 then
            let v84_11 : UInt64 := fX3_whole v47_5.toUInt64 (0 : Int32) x2
            ((fX3_becomes kn kc kr ((fX3_isThere kn kc kr kt kw ff cv x1).2) kw ff cv x1 (fX3_sided (ff x1.toNatClampNeg) (fJxe99ae_doubleToLongBits_ccdee v84_11) (0 : Int32))).1, (fX3_becomes kn kc kr ((fX3_isThere kn kc kr kt kw ff cv x1).2) kw ff cv x1 (fX3_sided (ff x1.toNatClampNeg) (fJxe99ae_doubleToLongBits_ccdee v84_11) (0 : Int32))).2.1, (fX3_becomes kn kc kr ((fX3_isThere kn kc kr kt kw ff cv x1).2) kw ff cv x1 (fX3_sided (ff x1.toNatClampNeg) (fJxe99ae_doubleToLongBits_ccdee v84_11) (0 : Int32))).2.2, (fX3_isThere kn kc kr kt kw ff cv x1).2)
          else
            let v84_12 : UInt64 := fX3_whole v47_5.toUInt64 (1 : Int32) x2
            ((fX3_becomes kn kc kr ((fX3_isThere kn kc kr kt kw ff cv x1).2) kw ff cv x1 (fX3_sided (ff x1.toNatClampNeg) (fJxe99ae_doubleToLongBits_ccdee v84_12) (1 : Int32))).1, (fX3_becomes kn kc kr ((fX3_isThere kn kc kr kt kw ff cv x1).2) kw ff cv x1 (fX3_sided (ff x1.toNatClampNeg) (fJxe99ae_doubleToLongBits_ccdee v84_12) (1 : Int32))).2.1, (fX3_becomes kn kc kr ((fX3_isThere kn kc kr kt kw ff cv x1).2) kw ff cv x1 (fX3_sided (ff x1.toNatClampNeg) (fJxe99ae_doubleToLongBits_ccdee v84_12) (1 : Int32))).2.2, (fX3_isThere kn kc kr kt kw ff cv x1).2)
      else
        ((0 : Int64), cv, kc, (2 : Int32))
theorem hd_X3_rest : yX3_rest.cls = RX3 ∧ yX3_rest.cls ≠ "java/lang/invoke/MethodHandle" ∧ yX3_rest.cls ≠ "java/lang/invoke/VarHandle" ∧ (parseMethodDescriptor yX3_rest.desc).map (fun d => d.parameters.length) = some 2 := by decide +kernel
theorem hin_X3_X3_rest : ∀ w ∈ wsX30, w ∈ wsX3_rest := by decide +kernel
set_option maxHeartbeats 1000000 in
set_option maxRecDepth 100000 in
theorem c_X3_rest (l : Launch) {cyJ : ClassId} {cyZ : ClassId} (D : va_G) (tys : List (ClassId × FieldType)) (ad : Nat → Nat) (L : List Nat) (g : Nat → va_E) (om fz cj : Nat) (kn : Int32) (kc : Int32) (kr : Int32) (kt : Int32) (kw : Int64) (ff : Nat → Int32) (cv : Nat → Int64) (x1 : Int32) (x2 : Int32) (hL_om : om ∈ L) (hL_fz : fz ∈ L) (hL_cj : cj ∈ L) (hg_om : g om = .inr (3, [.ref fz, .ref cj, .int kn, .int kc, .int kr, .int kt, .long kw])) (hg_fz : g fz = .inl (cyZ, 8, .inl ff)) (hg_cj : g cj = .inl (cyJ, 56, .inr (.inl cv))) (ne_om_cj : om ≠ cj) (ne_fz_om : fz ≠ om) (ne_fz_cj : fz ≠ cj) (ne_cj_om : cj ≠ om) (htJ : tys[0]? = some (cyJ, .long)) (htZ : tys[1]? = some (cyZ, .boolean)) (hkn : 0 ≤ kn ∧ kn ≤ 8) (hrF : ∀ a z : Int64, a = (cv (((7 : Int32) * x1) + (2 : Int32)).toNatClampNeg) → z = (fX3_sizeOf (ff x1.toNatClampNeg) a) → vp_in x1 8 → ¬ (ff x1.toNatClampNeg) = 0 → vn_snl2d z = false ∧ WhOK z.toUInt64) (hrC : ∀ a z : Int64, a = (cv (((7 : Int32) * x1) + (2 : Int32)).toNatClampNeg) → z = (fX3_sizeOf (ff x1.toNatClampNeg) a) → vp_in x1 8 → (ff x1.toNatClampNeg) = 0 → vn_sni2f z.toInt32 = false ∧ vf_n64 (FP.f2d z.toInt32.toUInt32) ∧ WhOK (FP.f2d z.toInt32.toUInt32) ∧ ∀ (b : Int32) (w : UInt64), w = fX3_whole (FP.f2d z.toInt32.toUInt32) b x2 → vf_n32 (FP.d2f w)) : Met l yX3_rest wsX3_rest ({ frames := 4, cells := 0, slots := 0, locals := 94 }) (PW D tys ad L g [.ref om, .int x1, .int x2]) (QE D tys ad L (some (.long ((fX3_rest kn kc kr kt kw ff cv x1 x2).1))) (fun g1 => g1 om = .inr (3, [.ref fz, .ref cj, .int kn, .int ((fX3_rest kn kc kr kt kw ff cv x1 x2).2.2.1), .int kr, .int ((fX3_rest kn kc kr kt kw ff cv x1 x2).2.2.2), .long kw]) ∧ g1 cj = .inl (cyJ, 56, .inr (.inl ((fX3_rest kn kc kr kt kw ff cv x1 x2).2.1))) ∧ ∀ q : Nat, q ≠ om → q ≠ cj → g1 q = g q)) 0 0 (fun q => q ∈ L) := by
  refine Met.ofW (cc := cX3_rest) (maxL := 10) (ret := (some .long)) (by decide) rfl ?_
  intro p e s m args below meth c s₁ B hml hv
  obtain ⟨rfl, ⟨hP, hK, hD0, hKC0, hTC⟩, hXN⟩ := hv
  have hP0 := hP
  have hD : va_D (fun q => q ∈ L) (va_pl L g) := we_D (fun _ h => h) hD0
  have hKC : KC ad (fun q => q ∈ L) s s.heap := hKC0.narrow (fun _ h => Or.inl h)
  have hS : va_S (fun q => q ∈ L) s.heap s.heap [] := va_S.rf
  have hx := B.exec
  have hb := B.bytes
  have hr := B.returns
  have hts := atoms_spec (ws := wsX3_rest) B.pre
  have hown : s.vm.findClass RX3 = some m.cls := findClass_of_methodNamed B.named
  have hlocks := B.notSynchronized
  have hrs : ∀ q : Nat, q ≠ om → q ≠ cj → g q = g q := fun q _ _ => rfl
  have hl := lv_entry ([.ref om, .int x1, .int x2]) (n := 10) (Nat.le_of_ble_eq_true rfl)
  rw [lg_entry_eq]
  generalize (lg_sl ([.ref om, .int x1, .int x2]) ++ List.replicate (10 - (lg_sl ([.ref om, .int x1, .int x2])).length) Slot.unset).toArray = ls at hl ⊢
  have hl : lv_has ls 10 [(0, .ref om), (1, .int x1), (2, .int x2)] := hl
  refine lv_aload_n hx hb dX3_rest_0 rfl (lv_at hl 0 rfl) ?_
  refine lv_iload_n hx hb dX3_rest_1 rfl (lv_at hl 1 rfl) ?_
  refine mc_V (b := om) (As := [.int x1]) (rest := []) ⟨hx, hb, hml, hown, hts⟩ (c_X3_isThere l D tys ad L g  om fz cj kn kc kr kt kw ff cv x1 hL_om hL_fz hL_cj hg_om hg_fz hg_cj ne_fz_om ne_cj_om htJ htZ) (cwV 1 hts gX3_rest_X3_isThere rfl rfl rfl hd_X3_isThere ⟨Nat.le_of_ble_eq_true rfl, Nat.le_of_ble_eq_true rfl⟩) (pg_recv hK hP hL_om hg_om rfl) (fun U hU hvm => WM hP hK hD hKC0 hTC hS hU hvm) hXN hS (fun _ h => h) rfl hl.1 rfl (lv_room (Nat.le_of_ble_eq_true rfl)) dX3_rest_2 ⟨Nat.le_of_ble_eq_true rfl, Nat.le_of_ble_eq_true rfl⟩ (fun g1 H locs hp9 hP hD hS => ?_)
  refine W.eq (g2 := F0 m 5 ls [.int ((fX3_isThere kn kc kr kt kw ff cv x1).1)]) rfl ?_
  obtain ⟨hn9_om, hr9⟩ := hp9
  have hg_om : g1 om = .inr (3, [.ref fz, .ref cj, .int kn, .int kc, .int kr, .int ((fX3_isThere kn kc kr kt kw ff cv x1).2), .long kw]) := hn9_om
  have hg_fz : g1 fz = .inl (cyZ, 8, .inl ff) := (hr9 fz ne_fz_om).trans hg_fz
  have hg_cj : g1 cj = .inl (cyJ, 56, .inr (.inl cv)) := (hr9 cj ne_cj_om).trans hg_cj
  have hrs : ∀ q : Nat, q ≠ om → q ≠ cj → g1 q = g q := fun q h_om h_cj => (hr9 q h_om).trans (hrs q h_om h_cj)
  refine lv_if_ne (tgt := 10) hx hb dX3_rest_5 (by decide) (fun c_1 => ?_) (fun c_1 => ?_)
  · refine lv_iload_n hx hb dX3_rest_10 rfl (lv_at hl 2 rfl) ?_
    refine lv_if_lt (tgt := 19) hx hb dX3_rest_11 (by decide) (fun c_2 => ?_) (fun c_2 => ?_)
    · refine lv_aload_n hx hb dX3_rest_19 rfl (lv_at hl 0 rfl) ?_
      refine lv_iconst (v := 2) hx hb dX3_rest_20 (by decide) ?_
      refine pg_put (ty := .int) hx hb hts hin_X3_X3_rest tyX3 tyX3_ok nmX3 hown hK hP hD hS hL_om hg_om rfl 5 (by decide) (hts (.fieldLink RX3 17 "NeedleBoardModel" "thrown" "I") (by decide +kernel)) rfl (by decide +kernel) rfl rfl (Nat.le_of_ble_eq_true rfl) dX3_rest_21 (fun H locs hP hD hS => ?_)
      obtain ⟨g2, eg2⟩ : ∃ z : Nat → va_E, z = va_up g1 om (.inr (3, [.ref fz, .ref cj, .int kn, .int kc, .int kr, .int (2 : Int32), .long kw])) := ⟨_, rfl⟩
      have hP : va_P D vwCl (va_pl L g2) H := by rw [eg2]; exact hP
      have hD : va_D (fun q => q ∈ L) (va_pl L g2) := by rw [eg2]; exact hD
      have hg_om : g2 om = .inr (3, [.ref fz, .ref cj, .int kn, .int kc, .int kr, .int (2 : Int32), .long kw]) := by rw [eg2]; exact va_up_self _ _ _
      have hg_fz : g2 fz = .inl (cyZ, 8, .inl ff) := (congrFun eg2 fz).trans ((va_up_ne _ _ ne_fz_om).trans hg_fz)
      have hg_cj : g2 cj = .inl (cyJ, 56, .inr (.inl cv)) := (congrFun eg2 cj).trans ((va_up_ne _ _ ne_cj_om).trans hg_cj)
      have hrs : ∀ q : Nat, q ≠ om → q ≠ cj → g2 q = g q := fun q h_om h_cj => (congrFun eg2 q).trans ((va_up_ne _ _ h_om).trans (hrs q h_om h_cj))
      refine lv_lconst (v := 0) hx hb dX3_rest_24 (by decide) ?_
      have hF : fX3_rest kn kc kr kt kw ff cv x1 x2 = ((0 : Int64), cv, kc, (2 : Int32)) := (by unfold fX3_rest; rw [if_neg c_1, if_pos c_2])
      have hF0 : (fX3_rest kn kc kr kt kw ff cv x1 x2).1 = (0 : Int64) := by rw [hF]
      have hF1 : (fX3_rest kn kc kr kt kw ff cv x1 x2).2.1 = cv := by rw [hF]
      have hF2 : (fX3_rest kn kc kr kt kw ff cv x1 x2).2.2.1 = kc := by rw [hF]
      have hF3 : (fX3_rest kn kc kr kt kw ff cv x1 x2).2.2.2 = (2 : Int32) := by rw [hF]
      exact W.lret hx hb hr (fun t ht hW => ⟨congrArg (fun z => Outcome.returned (some (Value.long z))) hF0.symm, ⟨g2, WM hP hK hD hKC0 hTC hS ht hW.alike, by rw [hF1, hF2, hF3]; exact ⟨hg_om, hg_cj, hrs⟩⟩, hS.F ht⟩) (fun q h => hS.2.2 q h) dX3_rest_25
    · refine lv_iload_n hx hb dX3_rest_14 rfl (lv_at hl 2 rfl) ?_
      refine lv_iconst (v := 2) hx hb dX3_rest_15 (by decide) ?_
      refine lv_icmp_le (tgt := 26) hx hb dX3_rest_16 (by decide) (fun c_3 => ?_) (fun c_3 => ?_)
      · refine lv_aload_n hx hb dX3_rest_26 rfl (lv_at hl 0 rfl) ?_
        refine pg_get hx hb hts hin_X3_X3_rest hown hK hP hL_om hg_om rfl 0 (by decide) (hts (.fieldLink RX3 7 "NeedleBoardModel" "isFine" "[Z") (by decide +kernel)) rfl dX3_rest_27 ?_
        refine lv_iload_n hx hb dX3_rest_30 rfl (lv_at hl 1 rfl) ?_
        refine pg_zald hx hb hK hP 1 hL_fz hg_fz htZ (it_in hkn c_1) dX3_rest_31 ?_
        refine lv_istore_n (lv' := [(3, .int (ff x1.toNatClampNeg)), (0, .ref om), (1, .int x1), (2, .int x2)]) hx hb dX3_rest_32 rfl hl (by decide) rfl (fun ls hl => ?_)
        refine lv_aload_n hx hb dX3_rest_33 rfl (lv_at hl 1 rfl) ?_
        refine lv_iload_n hx hb dX3_rest_34 rfl (lv_at hl 2 rfl) ?_
        refine lv_iconst (v := 2) hx hb dX3_rest_35 (by decide) ?_
        refine rc_V (b := om) (r := .long (fX3_get kn kc kr ((fX3_isThere kn kc kr kt kw ff cv x1).2) kw ff cv x1 (2 : Int32))) (As := [.int x1, .int (2 : Int32)]) (rest := []) ⟨hx, hb, hml, hown, hts⟩ (c_X3_get l D tys ad L g1  om fz cj kn kc kr ((fX3_isThere kn kc kr kt kw ff cv x1).2) kw ff cv x1 (2 : Int32) hL_om hL_fz hL_cj hg_om hg_fz hg_cj htJ htZ (ix_in (it_in hkn c_1) (by unfold vp_in; decide))) (cwV 2 hts gX3_rest_X3_get rfl rfl rfl hd_X3_get ⟨Nat.le_of_ble_eq_true rfl, Nat.le_of_ble_eq_true rfl⟩) (pg_recv hK hP hL_om hg_om rfl) (fun U hU hvm => WM hP hK hD hKC0 hTC hS hU hvm) hXN rfl hl.1 rfl (lv_room (Nat.le_of_ble_eq_true rfl)) dX3_rest_36 ⟨Nat.le_of_ble_eq_true rfl, Nat.le_of_ble_eq_true rfl⟩ ?_
        refine lv_topl (fun v39_4 e_v39_4 => ?_)
        refine lv_lstore (lv' := [(4, .long v39_4), (3, .int (ff x1.toNatClampNeg)), (0, .ref om), (1, .int x1), (2, .int x2)]) hx hb dX3_rest_39 hl (by decide) rfl (fun ls hl => ?_)
        refine lv_iload_n hx hb dX3_rest_41 rfl (lv_at hl 1 rfl) ?_
        refine lv_lload hx hb dX3_rest_42 (lv_at hl 0 rfl) ?_
        refine pc_0 (As := [.int (ff x1.toNatClampNeg), .long v39_4]) (rest := []) (r := .long (fX3_sizeOf (ff x1.toNatClampNeg) v39_4)) ⟨hx, hb, hml, hown, hts⟩ (c_X3_sizeOf l (ff x1.toNatClampNeg) v39_4) (va_cwS 2 hts gX3_rest_X3_sizeOf rfl rfl rfl hd_X3_sizeOf ⟨Nat.le_of_ble_eq_true rfl, Nat.le_of_ble_eq_true rfl⟩) rfl hl.1 rfl (lv_room (Nat.le_of_ble_eq_true rfl)) dX3_rest_44 ⟨Nat.le_of_ble_eq_true rfl, Nat.le_of_ble_eq_true rfl⟩ ?_
        refine lv_topl (fun v47_5 e_v47_5 => ?_)
        refine lv_lstore (lv' := [(6, .long v47_5), (4, .long v39_4), (3, .int (ff x1.toNatClampNeg)), (0, .ref om), (1, .int x1), (2, .int x2)]) hx hb dX3_rest_47 hl (by decide) rfl (fun ls hl => ?_)
        refine lv_iload_n hx hb dX3_rest_49 rfl (lv_at hl 2 rfl) ?_
        refine lv_if_eq (tgt := 61) hx hb dX3_rest_50 (by decide) (fun c_6 => ?_) (fun c_6 => ?_)
        · refine lv_lload hx hb dX3_rest_61 (lv_at hl 0 rfl) ?_
          refine lv_l2i hx hb dX3_rest_63 rfl ?_
          refine vn_i2f hx hb (hml.trans hl.1.symm) hown (hts (.methodLink RX3 39 ⟨"java/lang/Float", "intBitsToFloat", "(I)F"⟩) (by decide +kernel)) (hts (.native ⟨"java/lang/Float", "intBitsToFloat", "(I)F"⟩) (by decide +kernel)) (hts (.static ⟨"java/lang/Float", "intBitsToFloat", "(I)F"⟩) (by decide +kernel)) (hts (.initialized "java/lang/Float") (by decide +kernel)) (hrC _ _ e_v39_4 e_v47_5 (it_in hkn c_1) c_6).1 (Nat.le_of_ble_eq_true rfl) (Nat.le_of_ble_eq_true rfl) dX3_rest_64 ?_
          refine lv_f2d hx hb dX3_rest_67 (hrC _ _ e_v39_4 e_v47_5 (it_in hkn c_1) c_6).2.1 ?_
          refine lv_lload hx hb dX3_rest_68 (lv_at hl 1 rfl) ?_
          refine lv_lconst (v := 0) hx hb dX3_rest_70 (by decide) ?_
          refine pl_ge (tgt := 79) hx hb dX3_rest_71 dX3_rest_72 (by decide) (fun c_7 => ?_) (fun c_7 => ?_)
          · refine lv_iconst (v := 0) hx hb dX3_rest_79 (by decide) ?_
            refine lv_iload_n hx hb dX3_rest_80 rfl (lv_at hl 5 rfl) ?_
            refine pc_0 (As := [.double (FP.f2d v47_5.toInt32.toUInt32), .int (0 : Int32), .int x2]) (rest := []) (r := .double (fX3_whole (FP.f2d v47_5.toInt32.toUInt32) (0 : Int32) x2)) ⟨hx, hb, hml, hown, hts⟩ (c_X3_whole l (FP.f2d v47_5.toInt32.toUInt32) (0 : Int32) x2 (hrC _ _ e_v39_4 e_v47_5 (it_in hkn c_1) c_6).2.2.1) (va_cwS 3 hts gX3_rest_X3_whole rfl rfl rfl hd_X3_whole ⟨Nat.le_of_ble_eq_true rfl, Nat.le_of_ble_eq_true rfl⟩) rfl hl.1 rfl (lv_room (Nat.le_of_ble_eq_true rfl)) dX3_rest_81 ⟨Nat.le_of_ble_eq_true rfl, Nat.le_of_ble_eq_true rfl⟩ ?_
            refine lv_topd (fun v84_8 e_v84_8 => ?_)
            refine lv_dstore (lv' := [(8, .double v84_8), (6, .long v47_5), (4, .long v39_4), (3, .int (ff x1.toNatClampNeg)), (0, .ref om), (1, .int x1), (2, .int x2)]) hx hb dX3_rest_84 hl (by decide) rfl (fun ls hl => ?_)
            refine lv_aload_n hx hb dX3_rest_86 rfl (lv_at hl 4 rfl) ?_
            refine lv_iload_n hx hb dX3_rest_87 rfl (lv_at hl 5 rfl) ?_
            refine lv_iload_n hx hb dX3_rest_88 rfl (lv_at hl 3 rfl) ?_
            refine lv_iload_n hx hb dX3_rest_89 rfl (lv_at hl 3 rfl) ?_
            refine lv_if_eq (tgt := 101) hx hb dX3_rest_90 (by decide) (fun _ => ?_) (fun h9 => absurd c_6 h9)
            refine lv_dload hx hb dX3_rest_101 (lv_at hl 0 rfl) ?_
            refine lv_d2f hx hb dX3_rest_103 ((hrC _ _ e_v39_4 e_v47_5 (it_in hkn c_1) c_6).2.2.2 _ _ e_v84_8) ?_
            refine pc_0 (As := [.float (FP.d2f v84_8)]) (rest := [.int (ff x1.toNatClampNeg), .int x1, .ref om]) (r := .int (fJxf58ca_floatToIntBits_5c35a (FP.d2f v84_8))) ⟨hx, hb, hml, hown, hts⟩ (c_Jxf58ca_floatToIntBits_5c35a l (FP.d2f v84_8)) (va_cwS 1 hts gX3_rest_Jxf58ca_floatToIntBits_5c35a rfl rfl rfl hd_Jxf58ca_floatToIntBits_5c35a ⟨Nat.le_of_ble_eq_true rfl, Nat.le_of_ble_eq_true rfl⟩) rfl hl.1 rfl (lv_room (Nat.le_of_ble_eq_true rfl)) dX3_rest_104 ⟨Nat.le_of_ble_eq_true rfl, Nat.le_of_ble_eq_true rfl⟩ ?_
            refine lv_i2l hx hb dX3_rest_107 rfl ?_
            refine lv_lload hx hb dX3_rest_108 (lv_at hl 2 rfl) ?_
            refine lv_lconst (v := 0) hx hb dX3_rest_110 (by decide) ?_
            refine pl_ge (tgt := 119) hx hb dX3_rest_111 dX3_rest_112 (by decide) (fun _ => ?_) (fun h9 => absurd c_7 h9)
            refine lv_iconst (v := 0) hx hb dX3_rest_119 (by decide) ?_
            refine pc_0 (As := [.int (ff x1.toNatClampNeg), .long ((fJxf58ca_floatToIntBits_5c35a (FP.d2f v84_8)).toInt64), .int (0 : Int32)]) (rest := [.int x1, .ref om]) (r := .long (fX3_sided (ff x1.toNatClampNeg) ((fJxf58ca_floatToIntBits_5c35a (FP.d2f v84_8)).toInt64) (0 : Int32))) ⟨hx, hb, hml, hown, hts⟩ (c_X3_sided l (ff x1.toNatClampNeg) ((fJxf58ca_floatToIntBits_5c35a (FP.d2f v84_8)).toInt64) (0 : Int32)) (va_cwS 3 hts gX3_rest_X3_sided rfl rfl rfl hd_X3_sided ⟨Nat.le_of_ble_eq_true rfl, Nat.le_of_ble_eq_true rfl⟩) rfl hl.1 rfl (lv_room (Nat.le_of_ble_eq_true rfl)) dX3_rest_120 ⟨Nat.le_of_ble_eq_true rfl, Nat.le_of_ble_eq_true rfl⟩ ?_
            refine mc_V (b := om) (As := [.int x1, .long (fX3_sided (ff x1.toNatClampNeg) ((fJxf58ca_floatToIntBits_5c35a (FP.d2f v84_8)).toInt64) (0 : Int32))]) (rest := []) ⟨hx, hb, hml, hown, hts⟩ (c_X3_becomes l D tys ad L g1  om fz cj kn kc kr ((fX3_isThere kn kc kr kt kw ff cv x1).2) kw ff cv x1 (fX3_sided (ff x1.toNatClampNeg) ((fJxf58ca_floatToIntBits_5c35a (FP.d2f v84_8)).toInt64) (0 : Int32)) hL_om hL_fz hL_cj hg_om hg_fz hg_cj ne_om_cj ne_fz_om ne_fz_cj ne_cj_om htJ htZ (it_in hkn c_1)) (cwV 2 hts gX3_rest_X3_becomes rfl rfl rfl hd_X3_becomes ⟨Nat.le_of_ble_eq_true rfl, Nat.le_of_ble_eq_true rfl⟩) (pg_recv hK hP hL_om hg_om rfl) (fun U hU hvm => WM hP hK hD hKC0 hTC hS hU hvm) hXN hS (fun _ h => h) rfl hl.1 rfl (lv_room (Nat.le_of_ble_eq_true rfl)) dX3_rest_123 ⟨Nat.le_of_ble_eq_true rfl, Nat.le_of_ble_eq_true rfl⟩ (fun g2 H locs hp9 hP hD hS => ?_)
            refine W.eq (g2 := F0 m 126 ls [.long ((fX3_becomes kn kc kr ((fX3_isThere kn kc kr kt kw ff cv x1).2) kw ff cv x1 (fX3_sided (ff x1.toNatClampNeg) ((fJxf58ca_floatToIntBits_5c35a (FP.d2f v84_8)).toInt64) (0 : Int32))).1)]) rfl ?_
            obtain ⟨hn9_om, hn9_cj, hr9⟩ := hp9
            have hg_om : g2 om = .inr (3, [.ref fz, .ref cj, .int kn, .int ((fX3_becomes kn kc kr ((fX3_isThere kn kc kr kt kw ff cv x1).2) kw ff cv x1 (fX3_sided (ff x1.toNatClampNeg) ((fJxf58ca_floatToIntBits_5c35a (FP.d2f v84_8)).toInt64) (0 : Int32))).2.2), .int kr, .int ((fX3_isThere kn kc kr kt kw ff cv x1).2), .long kw]) := hn9_om
            have hg_fz : g2 fz = .inl (cyZ, 8, .inl ff) := (hr9 fz ne_fz_om ne_fz_cj).trans hg_fz
            have hg_cj : g2 cj = .inl (cyJ, 56, .inr (.inl ((fX3_becomes kn kc kr ((fX3_isThere kn kc kr kt kw ff cv x1).2) kw ff cv x1 (fX3_sided (ff x1.toNatClampNeg) ((fJxf58ca_floatToIntBits_5c35a (FP.d2f v84_8)).toInt64) (0 : Int32))).2.1))) := hn9_cj
            have hrs : ∀ q : Nat, q ≠ om → q ≠ cj → g2 q = g q := fun q h_om h_cj => (hr9 q h_om h_cj).trans (hrs q h_om h_cj)
            have hF : fX3_rest kn kc kr kt kw ff cv x1 x2 = ((fX3_becomes kn kc kr ((fX3_isThere kn kc kr kt kw ff cv x1).2) kw ff cv x1 (fX3_sided (ff x1.toNatClampNeg) ((fJxf58ca_floatToIntBits_5c35a (FP.d2f v84_8)).toInt64) (0 : Int32))).1, (fX3_becomes kn kc kr ((fX3_isThere kn kc kr kt kw ff cv x1).2) kw ff cv x1 (fX3_sided (ff x1.toNatClampNeg) ((fJxf58ca_floatToIntBits_5c35a (FP.d2f v84_8)).toInt64) (0 : Int32))).2.1, (fX3_becomes kn kc kr ((fX3_isThere kn kc kr kt kw ff cv x1).2) kw ff cv x1 (fX3_sided (ff x1.toNatClampNeg) ((fJxf58ca_floatToIntBits_5c35a (FP.d2f v84_8)).toInt64) (0 : Int32))).2.2, (fX3_isThere kn kc kr kt kw ff cv x1).2) := (by subst e_v39_4 e_v47_5 e_v84_8; unfold fX3_rest; dsimp only; rw [if_neg c_1, if_neg c_2, if_pos c_3, if_pos c_6, if_pos c_7])
            have hF0 : (fX3_rest kn kc kr kt kw ff cv x1 x2).1 = (fX3_becomes kn kc kr ((fX3_isThere kn kc kr kt kw ff cv x1).2) kw ff cv x1 (fX3_sided (ff x1.toNatClampNeg) ((fJxf58ca_floatToIntBits_5c35a (FP.d2f v84_8)).toInt64) (0 : Int32))).1 := by rw [hF]
            have hF1 : (fX3_rest kn kc kr kt kw ff cv x1 x2).2.1 = (fX3_becomes kn kc kr ((fX3_isThere kn kc kr kt kw ff cv x1).2) kw ff cv x1 (fX3_sided (ff x1.toNatClampNeg) ((fJxf58ca_floatToIntBits_5c35a (FP.d2f v84_8)).toInt64) (0 : Int32))).2.1 := by rw [hF]
            have hF2 : (fX3_rest kn kc kr kt kw ff cv x1 x2).2.2.1 = (fX3_becomes kn kc kr ((fX3_isThere kn kc kr kt kw ff cv x1).2) kw ff cv x1 (fX3_sided (ff x1.toNatClampNeg) ((fJxf58ca_floatToIntBits_5c35a (FP.d2f v84_8)).toInt64) (0 : Int32))).2.2 := by rw [hF]
            have hF3 : (fX3_rest kn kc kr kt kw ff cv x1 x2).2.2.2 = (fX3_isThere kn kc kr kt kw ff cv x1).2 := by rw [hF]
            exact W.lret hx hb hr (fun t ht hW => ⟨congrArg (fun z => Outcome.returned (some (Value.long z))) hF0.symm, ⟨g2, WM hP hK hD hKC0 hTC hS ht hW.alike, by rw [hF1, hF2, hF3]; exact ⟨hg_om, hg_cj, hrs⟩⟩, hS.F ht⟩) (fun q h => hS.2.2 q h) dX3_rest_126
          · refine lv_iconst (v := 1) hx hb dX3_rest_75 (by decide) ?_
            refine lv_goto (tgt := 80) hx hb dX3_rest_76 (by decide) ?_
            refine lv_iload_n hx hb dX3_rest_80 rfl (lv_at hl 5 rfl) ?_
            refine pc_0 (As := [.double (FP.f2d v47_5.toInt32.toUInt32), .int (1 : Int32), .int x2]) (rest := []) (r := .double (fX3_whole (FP.f2d v47_5.toInt32.toUInt32) (1 : Int32) x2)) ⟨hx, hb, hml, hown, hts⟩ (c_X3_whole l (FP.f2d v47_5.toInt32.toUInt32) (1 : Int32) x2 (hrC _ _ e_v39_4 e_v47_5 (it_in hkn c_1) c_6).2.2.1) (va_cwS 3 hts gX3_rest_X3_whole rfl rfl rfl hd_X3_whole ⟨Nat.le_of_ble_eq_true rfl, Nat.le_of_ble_eq_true rfl⟩) rfl hl.1 rfl (lv_room (Nat.le_of_ble_eq_true rfl)) dX3_rest_81 ⟨Nat.le_of_ble_eq_true rfl, Nat.le_of_ble_eq_true rfl⟩ ?_
            refine lv_topd (fun v84_9 e_v84_9 => ?_)
            refine lv_dstore (lv' := [(8, .double v84_9), (6, .long v47_5), (4, .long v39_4), (3, .int (ff x1.toNatClampNeg)), (0, .ref om), (1, .int x1), (2, .int x2)]) hx hb dX3_rest_84 hl (by decide) rfl (fun ls hl => ?_)
            refine lv_aload_n hx hb dX3_rest_86 rfl (lv_at hl 4 rfl) ?_
            refine lv_iload_n hx hb dX3_rest_87 rfl (lv_at hl 5 rfl) ?_
            refine lv_iload_n hx hb dX3_rest_88 rfl (lv_at hl 3 rfl) ?_
            refine lv_iload_n hx hb dX3_rest_89 rfl (lv_at hl 3 rfl) ?_
            refine lv_if_eq (tgt := 101) hx hb dX3_rest_90 (by decide) (fun _ => ?_) (fun h9 => absurd c_6 h9)
            refine lv_dload hx hb dX3_rest_101 (lv_at hl 0 rfl) ?_
            refine lv_d2f hx hb dX3_rest_103 ((hrC _ _ e_v39_4 e_v47_5 (it_in hkn c_1) c_6).2.2.2 _ _ e_v84_9) ?_
            refine pc_0 (As := [.float (FP.d2f v84_9)]) (rest := [.int (ff x1.toNatClampNeg), .int x1, .ref om]) (r := .int (fJxf58ca_floatToIntBits_5c35a (FP.d2f v84_9))) ⟨hx, hb, hml, hown, hts⟩ (c_Jxf58ca_floatToIntBits_5c35a l (FP.d2f v84_9)) (va_cwS 1 hts gX3_rest_Jxf58ca_floatToIntBits_5c35a rfl rfl rfl hd_Jxf58ca_floatToIntBits_5c35a ⟨Nat.le_of_ble_eq_true rfl, Nat.le_of_ble_eq_true rfl⟩) rfl hl.1 rfl (lv_room (Nat.le_of_ble_eq_true rfl)) dX3_rest_104 ⟨Nat.le_of_ble_eq_true rfl, Nat.le_of_ble_eq_true rfl⟩ ?_
            refine lv_i2l hx hb dX3_rest_107 rfl ?_
            refine lv_lload hx hb dX3_rest_108 (lv_at hl 2 rfl) ?_
            refine lv_lconst (v := 0) hx hb dX3_rest_110 (by decide) ?_
            refine pl_ge (tgt := 119) hx hb dX3_rest_111 dX3_rest_112 (by decide) (fun h9 => absurd h9 c_7) (fun _ => ?_)
            refine lv_iconst (v := 1) hx hb dX3_rest_115 (by decide) ?_
            refine lv_goto (tgt := 120) hx hb dX3_rest_116 (by decide) ?_
            refine pc_0 (As := [.int (ff x1.toNatClampNeg), .long ((fJxf58ca_floatToIntBits_5c35a (FP.d2f v84_9)).toInt64), .int (1 : Int32)]) (rest := [.int x1, .ref om]) (r := .long (fX3_sided (ff x1.toNatClampNeg) ((fJxf58ca_floatToIntBits_5c35a (FP.d2f v84_9)).toInt64) (1 : Int32))) ⟨hx, hb, hml, hown, hts⟩ (c_X3_sided l (ff x1.toNatClampNeg) ((fJxf58ca_floatToIntBits_5c35a (FP.d2f v84_9)).toInt64) (1 : Int32)) (va_cwS 3 hts gX3_rest_X3_sided rfl rfl rfl hd_X3_sided ⟨Nat.le_of_ble_eq_true rfl, Nat.le_of_ble_eq_true rfl⟩) rfl hl.1 rfl (lv_room (Nat.le_of_ble_eq_true rfl)) dX3_rest_120 ⟨Nat.le_of_ble_eq_true rfl, Nat.le_of_ble_eq_true rfl⟩ ?_
            refine mc_V (b := om) (As := [.int x1, .long (fX3_sided (ff x1.toNatClampNeg) ((fJxf58ca_floatToIntBits_5c35a (FP.d2f v84_9)).toInt64) (1 : Int32))]) (rest := []) ⟨hx, hb, hml, hown, hts⟩ (c_X3_becomes l D tys ad L g1  om fz cj kn kc kr ((fX3_isThere kn kc kr kt kw ff cv x1).2) kw ff cv x1 (fX3_sided (ff x1.toNatClampNeg) ((fJxf58ca_floatToIntBits_5c35a (FP.d2f v84_9)).toInt64) (1 : Int32)) hL_om hL_fz hL_cj hg_om hg_fz hg_cj ne_om_cj ne_fz_om ne_fz_cj ne_cj_om htJ htZ (it_in hkn c_1)) (cwV 2 hts gX3_rest_X3_becomes rfl rfl rfl hd_X3_becomes ⟨Nat.le_of_ble_eq_true rfl, Nat.le_of_ble_eq_true rfl⟩) (pg_recv hK hP hL_om hg_om rfl) (fun U hU hvm => WM hP hK hD hKC0 hTC hS hU hvm) hXN hS (fun _ h => h) rfl hl.1 rfl (lv_room (Nat.le_of_ble_eq_true rfl)) dX3_rest_123 ⟨Nat.le_of_ble_eq_true rfl, Nat.le_of_ble_eq_true rfl⟩ (fun g2 H locs hp9 hP hD hS => ?_)
            refine W.eq (g2 := F0 m 126 ls [.long ((fX3_becomes kn kc kr ((fX3_isThere kn kc kr kt kw ff cv x1).2) kw ff cv x1 (fX3_sided (ff x1.toNatClampNeg) ((fJxf58ca_floatToIntBits_5c35a (FP.d2f v84_9)).toInt64) (1 : Int32))).1)]) rfl ?_
            obtain ⟨hn9_om, hn9_cj, hr9⟩ := hp9
            have hg_om : g2 om = .inr (3, [.ref fz, .ref cj, .int kn, .int ((fX3_becomes kn kc kr ((fX3_isThere kn kc kr kt kw ff cv x1).2) kw ff cv x1 (fX3_sided (ff x1.toNatClampNeg) ((fJxf58ca_floatToIntBits_5c35a (FP.d2f v84_9)).toInt64) (1 : Int32))).2.2), .int kr, .int ((fX3_isThere kn kc kr kt kw ff cv x1).2), .long kw]) := hn9_om
            have hg_fz : g2 fz = .inl (cyZ, 8, .inl ff) := (hr9 fz ne_fz_om ne_fz_cj).trans hg_fz
            have hg_cj : g2 cj = .inl (cyJ, 56, .inr (.inl ((fX3_becomes kn kc kr ((fX3_isThere kn kc kr kt kw ff cv x1).2) kw ff cv x1 (fX3_sided (ff x1.toNatClampNeg) ((fJxf58ca_floatToIntBits_5c35a (FP.d2f v84_9)).toInt64) (1 : Int32))).2.1))) := hn9_cj
            have hrs : ∀ q : Nat, q ≠ om → q ≠ cj → g2 q = g q := fun q h_om h_cj => (hr9 q h_om h_cj).trans (hrs q h_om h_cj)
            have hF : fX3_rest kn kc kr kt kw ff cv x1 x2 = ((fX3_becomes kn kc kr ((fX3_isThere kn kc kr kt kw ff cv x1).2) kw ff cv x1 (fX3_sided (ff x1.toNatClampNeg) ((fJxf58ca_floatToIntBits_5c35a (FP.d2f v84_9)).toInt64) (1 : Int32))).1, (fX3_becomes kn kc kr ((fX3_isThere kn kc kr kt kw ff cv x1).2) kw ff cv x1 (fX3_sided (ff x1.toNatClampNeg) ((fJxf58ca_floatToIntBits_5c35a (FP.d2f v84_9)).toInt64) (1 : Int32))).2.1, (fX3_becomes kn kc kr ((fX3_isThere kn kc kr kt kw ff cv x1).2) kw ff cv x1 (fX3_sided (ff x1.toNatClampNeg) ((fJxf58ca_floatToIntBits_5c35a (FP.d2f v84_9)).toInt64) (1 : Int32))).2.2, (fX3_isThere kn kc kr kt kw ff cv x1).2) := (by subst e_v39_4 e_v47_5 e_v84_9; unfold fX3_rest; dsimp only; rw [if_neg c_1, if_neg c_2, if_pos c_3, if_pos c_6, if_neg c_7])
            have hF0 : (fX3_rest kn kc kr kt kw ff cv x1 x2).1 = (fX3_becomes kn kc kr ((fX3_isThere kn kc kr kt kw ff cv x1).2) kw ff cv x1 (fX3_sided (ff x1.toNatClampNeg) ((fJxf58ca_floatToIntBits_5c35a (FP.d2f v84_9)).toInt64) (1 : Int32))).1 := by rw [hF]
            have hF1 : (fX3_rest kn kc kr kt kw ff cv x1 x2).2.1 = (fX3_becomes kn kc kr ((fX3_isThere kn kc kr kt kw ff cv x1).2) kw ff cv x1 (fX3_sided (ff x1.toNatClampNeg) ((fJxf58ca_floatToIntBits_5c35a (FP.d2f v84_9)).toInt64) (1 : Int32))).2.1 := by rw [hF]
            have hF2 : (fX3_rest kn kc kr kt kw ff cv x1 x2).2.2.1 = (fX3_becomes kn kc kr ((fX3_isThere kn kc kr kt kw ff cv x1).2) kw ff cv x1 (fX3_sided (ff x1.toNatClampNeg) ((fJxf58ca_floatToIntBits_5c35a (FP.d2f v84_9)).toInt64) (1 : Int32))).2.2 := by rw [hF]
            have hF3 : (fX3_rest kn kc kr kt kw ff cv x1 x2).2.2.2 = (fX3_isThere kn kc kr kt kw ff cv x1).2 := by rw [hF]
            exact W.lret hx hb hr (fun t ht hW => ⟨congrArg (fun z => Outcome.returned (some (Value.long z))) hF0.symm, ⟨g2, WM hP hK hD hKC0 hTC hS ht hW.alike, by rw [hF1, hF2, hF3]; exact ⟨hg_om, hg_cj, hrs⟩⟩, hS.F ht⟩) (fun q h => hS.2.2 q h) dX3_rest_126
        · refine lv_lload hx hb dX3_rest_53 (lv_at hl 0 rfl) ?_
          refine vn_l2d hx hb (hml.trans hl.1.symm) hown (hts (.methodLink RX3 51 ⟨"java/lang/Double", "longBitsToDouble", "(J)D"⟩) (by decide +kernel)) (hts (.native ⟨"java/lang/Double", "longBitsToDouble", "(J)D"⟩) (by decide +kernel)) (hts (.static ⟨"java/lang/Double", "longBitsToDouble", "(J)D"⟩) (by decide +kernel)) (hts (.initialized "java/lang/Double") (by decide +kernel)) (hrF _ _ e_v39_4 e_v47_5 (it_in hkn c_1) c_6).1 (Nat.le_of_ble_eq_true rfl) (Nat.le_of_ble_eq_true rfl) dX3_rest_55 ?_
          refine lv_goto (tgt := 68) hx hb dX3_rest_58 (by decide) ?_
          refine lv_lload hx hb dX3_rest_68 (lv_at hl 1 rfl) ?_
          refine lv_lconst (v := 0) hx hb dX3_rest_70 (by decide) ?_
          refine pl_ge (tgt := 79) hx hb dX3_rest_71 dX3_rest_72 (by decide) (fun c_10 => ?_) (fun c_10 => ?_)
          · refine lv_iconst (v := 0) hx hb dX3_rest_79 (by decide) ?_
            refine lv_iload_n hx hb dX3_rest_80 rfl (lv_at hl 5 rfl) ?_
            refine pc_0 (As := [.double v47_5.toUInt64, .int (0 : Int32), .int x2]) (rest := []) (r := .double (fX3_whole v47_5.toUInt64 (0 : Int32) x2)) ⟨hx, hb, hml, hown, hts⟩ (c_X3_whole l v47_5.toUInt64 (0 : Int32) x2 (hrF _ _ e_v39_4 e_v47_5 (it_in hkn c_1) c_6).2) (va_cwS 3 hts gX3_rest_X3_whole rfl rfl rfl hd_X3_whole ⟨Nat.le_of_ble_eq_true rfl, Nat.le_of_ble_eq_true rfl⟩) rfl hl.1 rfl (lv_room (Nat.le_of_ble_eq_true rfl)) dX3_rest_81 ⟨Nat.le_of_ble_eq_true rfl, Nat.le_of_ble_eq_true rfl⟩ ?_
            refine lv_topd (fun v84_11 e_v84_11 => ?_)
            refine lv_dstore (lv' := [(8, .double v84_11), (6, .long v47_5), (4, .long v39_4), (3, .int (ff x1.toNatClampNeg)), (0, .ref om), (1, .int x1), (2, .int x2)]) hx hb dX3_rest_84 hl (by decide) rfl (fun ls hl => ?_)
            refine lv_aload_n hx hb dX3_rest_86 rfl (lv_at hl 4 rfl) ?_
            refine lv_iload_n hx hb dX3_rest_87 rfl (lv_at hl 5 rfl) ?_
            refine lv_iload_n hx hb dX3_rest_88 rfl (lv_at hl 3 rfl) ?_
            refine lv_iload_n hx hb dX3_rest_89 rfl (lv_at hl 3 rfl) ?_
            refine lv_if_eq (tgt := 101) hx hb dX3_rest_90 (by decide) (fun h9 => absurd h9 c_6) (fun _ => ?_)
            refine lv_dload hx hb dX3_rest_93 (lv_at hl 0 rfl) ?_
            refine pc_0 (As := [.double v84_11]) (rest := [.int (ff x1.toNatClampNeg), .int x1, .ref om]) (r := .long (fJxe99ae_doubleToLongBits_ccdee v84_11)) ⟨hx, hb, hml, hown, hts⟩ (c_Jxe99ae_doubleToLongBits_ccdee l v84_11) (va_cwS 1 hts gX3_rest_Jxe99ae_doubleToLongBits_ccdee rfl rfl rfl hd_Jxe99ae_doubleToLongBits_ccdee ⟨Nat.le_of_ble_eq_true rfl, Nat.le_of_ble_eq_true rfl⟩) rfl hl.1 rfl (lv_room (Nat.le_of_ble_eq_true rfl)) dX3_rest_95 ⟨Nat.le_of_ble_eq_true rfl, Nat.le_of_ble_eq_true rfl⟩ ?_
            refine lv_goto (tgt := 108) hx hb dX3_rest_98 (by decide) ?_
            refine lv_lload hx hb dX3_rest_108 (lv_at hl 2 rfl) ?_
            refine lv_lconst (v := 0) hx hb dX3_rest_110 (by decide) ?_
            refine pl_ge (tgt := 119) hx hb dX3_rest_111 dX3_rest_112 (by decide) (fun _ => ?_) (fun h9 => absurd c_10 h9)
            refine lv_iconst (v := 0) hx hb dX3_rest_119 (by decide) ?_
            refine pc_0 (As := [.int (ff x1.toNatClampNeg), .long (fJxe99ae_doubleToLongBits_ccdee v84_11), .int (0 : Int32)]) (rest := [.int x1, .ref om]) (r := .long (fX3_sided (ff x1.toNatClampNeg) (fJxe99ae_doubleToLongBits_ccdee v84_11) (0 : Int32))) ⟨hx, hb, hml, hown, hts⟩ (c_X3_sided l (ff x1.toNatClampNeg) (fJxe99ae_doubleToLongBits_ccdee v84_11) (0 : Int32)) (va_cwS 3 hts gX3_rest_X3_sided rfl rfl rfl hd_X3_sided ⟨Nat.le_of_ble_eq_true rfl, Nat.le_of_ble_eq_true rfl⟩) rfl hl.1 rfl (lv_room (Nat.le_of_ble_eq_true rfl)) dX3_rest_120 ⟨Nat.le_of_ble_eq_true rfl, Nat.le_of_ble_eq_true rfl⟩ ?_
            refine mc_V (b := om) (As := [.int x1, .long (fX3_sided (ff x1.toNatClampNeg) (fJxe99ae_doubleToLongBits_ccdee v84_11) (0 : Int32))]) (rest := []) ⟨hx, hb, hml, hown, hts⟩ (c_X3_becomes l D tys ad L g1  om fz cj kn kc kr ((fX3_isThere kn kc kr kt kw ff cv x1).2) kw ff cv x1 (fX3_sided (ff x1.toNatClampNeg) (fJxe99ae_doubleToLongBits_ccdee v84_11) (0 : Int32)) hL_om hL_fz hL_cj hg_om hg_fz hg_cj ne_om_cj ne_fz_om ne_fz_cj ne_cj_om htJ htZ (it_in hkn c_1)) (cwV 2 hts gX3_rest_X3_becomes rfl rfl rfl hd_X3_becomes ⟨Nat.le_of_ble_eq_true rfl, Nat.le_of_ble_eq_true rfl⟩) (pg_recv hK hP hL_om hg_om rfl) (fun U hU hvm => WM hP hK hD hKC0 hTC hS hU hvm) hXN hS (fun _ h => h) rfl hl.1 rfl (lv_room (Nat.le_of_ble_eq_true rfl)) dX3_rest_123 ⟨Nat.le_of_ble_eq_true rfl, Nat.le_of_ble_eq_true rfl⟩ (fun g2 H locs hp9 hP hD hS => ?_)
            refine W.eq (g2 := F0 m 126 ls [.long ((fX3_becomes kn kc kr ((fX3_isThere kn kc kr kt kw ff cv x1).2) kw ff cv x1 (fX3_sided (ff x1.toNatClampNeg) (fJxe99ae_doubleToLongBits_ccdee v84_11) (0 : Int32))).1)]) rfl ?_
            obtain ⟨hn9_om, hn9_cj, hr9⟩ := hp9
            have hg_om : g2 om = .inr (3, [.ref fz, .ref cj, .int kn, .int ((fX3_becomes kn kc kr ((fX3_isThere kn kc kr kt kw ff cv x1).2) kw ff cv x1 (fX3_sided (ff x1.toNatClampNeg) (fJxe99ae_doubleToLongBits_ccdee v84_11) (0 : Int32))).2.2), .int kr, .int ((fX3_isThere kn kc kr kt kw ff cv x1).2), .long kw]) := hn9_om
            have hg_fz : g2 fz = .inl (cyZ, 8, .inl ff) := (hr9 fz ne_fz_om ne_fz_cj).trans hg_fz
            have hg_cj : g2 cj = .inl (cyJ, 56, .inr (.inl ((fX3_becomes kn kc kr ((fX3_isThere kn kc kr kt kw ff cv x1).2) kw ff cv x1 (fX3_sided (ff x1.toNatClampNeg) (fJxe99ae_doubleToLongBits_ccdee v84_11) (0 : Int32))).2.1))) := hn9_cj
            have hrs : ∀ q : Nat, q ≠ om → q ≠ cj → g2 q = g q := fun q h_om h_cj => (hr9 q h_om h_cj).trans (hrs q h_om h_cj)
            have hF : fX3_rest kn kc kr kt kw ff cv x1 x2 = ((fX3_becomes kn kc kr ((fX3_isThere kn kc kr kt kw ff cv x1).2) kw ff cv x1 (fX3_sided (ff x1.toNatClampNeg) (fJxe99ae_doubleToLongBits_ccdee v84_11) (0 : Int32))).1, (fX3_becomes kn kc kr ((fX3_isThere kn kc kr kt kw ff cv x1).2) kw ff cv x1 (fX3_sided (ff x1.toNatClampNeg) (fJxe99ae_doubleToLongBits_ccdee v84_11) (0 : Int32))).2.1, (fX3_becomes kn kc kr ((fX3_isThere kn kc kr kt kw ff cv x1).2) kw ff cv x1 (fX3_sided (ff x1.toNatClampNeg) (fJxe99ae_doubleToLongBits_ccdee v84_11) (0 : Int32))).2.2, (fX3_isThere kn kc kr kt kw ff cv x1).2) := (by subst e_v39_4 e_v47_5 e_v84_11; unfold fX3_rest; dsimp only; rw [if_neg c_1, if_neg c_2, if_pos c_3, if_neg c_6, if_pos c_10])
            have hF0 : (fX3_rest kn kc kr kt kw ff cv x1 x2).1 = (fX3_becomes kn kc kr ((fX3_isThere kn kc kr kt kw ff cv x1).2) kw ff cv x1 (fX3_sided (ff x1.toNatClampNeg) (fJxe99ae_doubleToLongBits_ccdee v84_11) (0 : Int32))).1 := by rw [hF]
            have hF1 : (fX3_rest kn kc kr kt kw ff cv x1 x2).2.1 = (fX3_becomes kn kc kr ((fX3_isThere kn kc kr kt kw ff cv x1).2) kw ff cv x1 (fX3_sided (ff x1.toNatClampNeg) (fJxe99ae_doubleToLongBits_ccdee v84_11) (0 : Int32))).2.1 := by rw [hF]
            have hF2 : (fX3_rest kn kc kr kt kw ff cv x1 x2).2.2.1 = (fX3_becomes kn kc kr ((fX3_isThere kn kc kr kt kw ff cv x1).2) kw ff cv x1 (fX3_sided (ff x1.toNatClampNeg) (fJxe99ae_doubleToLongBits_ccdee v84_11) (0 : Int32))).2.2 := by rw [hF]
            have hF3 : (fX3_rest kn kc kr kt kw ff cv x1 x2).2.2.2 = (fX3_isThere kn kc kr kt kw ff cv x1).2 := by rw [hF]
            exact W.lret hx hb hr (fun t ht hW => ⟨congrArg (fun z => Outcome.returned (some (Value.long z))) hF0.symm, ⟨g2, WM hP hK hD hKC0 hTC hS ht hW.alike, by rw [hF1, hF2, hF3]; exact ⟨hg_om, hg_cj, hrs⟩⟩, hS.F ht⟩) (fun q h => hS.2.2 q h) dX3_rest_126
          · refine lv_iconst (v := 1) hx hb dX3_rest_75 (by decide) ?_
            refine lv_goto (tgt := 80) hx hb dX3_rest_76 (by decide) ?_
            refine lv_iload_n hx hb dX3_rest_80 rfl (lv_at hl 5 rfl) ?_
            refine pc_0 (As := [.double v47_5.toUInt64, .int (1 : Int32), .int x2]) (rest := []) (r := .double (fX3_whole v47_5.toUInt64 (1 : Int32) x2)) ⟨hx, hb, hml, hown, hts⟩ (c_X3_whole l v47_5.toUInt64 (1 : Int32) x2 (hrF _ _ e_v39_4 e_v47_5 (it_in hkn c_1) c_6).2) (va_cwS 3 hts gX3_rest_X3_whole rfl rfl rfl hd_X3_whole ⟨Nat.le_of_ble_eq_true rfl, Nat.le_of_ble_eq_true rfl⟩) rfl hl.1 rfl (lv_room (Nat.le_of_ble_eq_true rfl)) dX3_rest_81 ⟨Nat.le_of_ble_eq_true rfl, Nat.le_of_ble_eq_true rfl⟩ ?_
            refine lv_topd (fun v84_12 e_v84_12 => ?_)
            refine lv_dstore (lv' := [(8, .double v84_12), (6, .long v47_5), (4, .long v39_4), (3, .int (ff x1.toNatClampNeg)), (0, .ref om), (1, .int x1), (2, .int x2)]) hx hb dX3_rest_84 hl (by decide) rfl (fun ls hl => ?_)
            refine lv_aload_n hx hb dX3_rest_86 rfl (lv_at hl 4 rfl) ?_
            refine lv_iload_n hx hb dX3_rest_87 rfl (lv_at hl 5 rfl) ?_
            refine lv_iload_n hx hb dX3_rest_88 rfl (lv_at hl 3 rfl) ?_
            refine lv_iload_n hx hb dX3_rest_89 rfl (lv_at hl 3 rfl) ?_
            refine lv_if_eq (tgt := 101) hx hb dX3_rest_90 (by decide) (fun h9 => absurd h9 c_6) (fun _ => ?_)
            refine lv_dload hx hb dX3_rest_93 (lv_at hl 0 rfl) ?_
            refine pc_0 (As := [.double v84_12]) (rest := [.int (ff x1.toNatClampNeg), .int x1, .ref om]) (r := .long (fJxe99ae_doubleToLongBits_ccdee v84_12)) ⟨hx, hb, hml, hown, hts⟩ (c_Jxe99ae_doubleToLongBits_ccdee l v84_12) (va_cwS 1 hts gX3_rest_Jxe99ae_doubleToLongBits_ccdee rfl rfl rfl hd_Jxe99ae_doubleToLongBits_ccdee ⟨Nat.le_of_ble_eq_true rfl, Nat.le_of_ble_eq_true rfl⟩) rfl hl.1 rfl (lv_room (Nat.le_of_ble_eq_true rfl)) dX3_rest_95 ⟨Nat.le_of_ble_eq_true rfl, Nat.le_of_ble_eq_true rfl⟩ ?_
            refine lv_goto (tgt := 108) hx hb dX3_rest_98 (by decide) ?_
            refine lv_lload hx hb dX3_rest_108 (lv_at hl 2 rfl) ?_
            refine lv_lconst (v := 0) hx hb dX3_rest_110 (by decide) ?_
            refine pl_ge (tgt := 119) hx hb dX3_rest_111 dX3_rest_112 (by decide) (fun h9 => absurd h9 c_10) (fun _ => ?_)
            refine lv_iconst (v := 1) hx hb dX3_rest_115 (by decide) ?_
            refine lv_goto (tgt := 120) hx hb dX3_rest_116 (by decide) ?_
            refine pc_0 (As := [.int (ff x1.toNatClampNeg), .long (fJxe99ae_doubleToLongBits_ccdee v84_12), .int (1 : Int32)]) (rest := [.int x1, .ref om]) (r := .long (fX3_sided (ff x1.toNatClampNeg) (fJxe99ae_doubleToLongBits_ccdee v84_12) (1 : Int32))) ⟨hx, hb, hml, hown, hts⟩ (c_X3_sided l (ff x1.toNatClampNeg) (fJxe99ae_doubleToLongBits_ccdee v84_12) (1 : Int32)) (va_cwS 3 hts gX3_rest_X3_sided rfl rfl rfl hd_X3_sided ⟨Nat.le_of_ble_eq_true rfl, Nat.le_of_ble_eq_true rfl⟩) rfl hl.1 rfl (lv_room (Nat.le_of_ble_eq_true rfl)) dX3_rest_120 ⟨Nat.le_of_ble_eq_true rfl, Nat.le_of_ble_eq_true rfl⟩ ?_
            refine mc_V (b := om) (As := [.int x1, .long (fX3_sided (ff x1.toNatClampNeg) (fJxe99ae_doubleToLongBits_ccdee v84_12) (1 : Int32))]) (rest := []) ⟨hx, hb, hml, hown, hts⟩ (c_X3_becomes l D tys ad L g1  om fz cj kn kc kr ((fX3_isThere kn kc kr kt kw ff cv x1).2) kw ff cv x1 (fX3_sided (ff x1.toNatClampNeg) (fJxe99ae_doubleToLongBits_ccdee v84_12) (1 : Int32)) hL_om hL_fz hL_cj hg_om hg_fz hg_cj ne_om_cj ne_fz_om ne_fz_cj ne_cj_om htJ htZ (it_in hkn c_1)) (cwV 2 hts gX3_rest_X3_becomes rfl rfl rfl hd_X3_becomes ⟨Nat.le_of_ble_eq_true rfl, Nat.le_of_ble_eq_true rfl⟩) (pg_recv hK hP hL_om hg_om rfl) (fun U hU hvm => WM hP hK hD hKC0 hTC hS hU hvm) hXN hS (fun _ h => h) rfl hl.1 rfl (lv_room (Nat.le_of_ble_eq_true rfl)) dX3_rest_123 ⟨Nat.le_of_ble_eq_true rfl, Nat.le_of_ble_eq_true rfl⟩ (fun g2 H locs hp9 hP hD hS => ?_)
            refine W.eq (g2 := F0 m 126 ls [.long ((fX3_becomes kn kc kr ((fX3_isThere kn kc kr kt kw ff cv x1).2) kw ff cv x1 (fX3_sided (ff x1.toNatClampNeg) (fJxe99ae_doubleToLongBits_ccdee v84_12) (1 : Int32))).1)]) rfl ?_
            obtain ⟨hn9_om, hn9_cj, hr9⟩ := hp9
            have hg_om : g2 om = .inr (3, [.ref fz, .ref cj, .int kn, .int ((fX3_becomes kn kc kr ((fX3_isThere kn kc kr kt kw ff cv x1).2) kw ff cv x1 (fX3_sided (ff x1.toNatClampNeg) (fJxe99ae_doubleToLongBits_ccdee v84_12) (1 : Int32))).2.2), .int kr, .int ((fX3_isThere kn kc kr kt kw ff cv x1).2), .long kw]) := hn9_om
            have hg_fz : g2 fz = .inl (cyZ, 8, .inl ff) := (hr9 fz ne_fz_om ne_fz_cj).trans hg_fz
            have hg_cj : g2 cj = .inl (cyJ, 56, .inr (.inl ((fX3_becomes kn kc kr ((fX3_isThere kn kc kr kt kw ff cv x1).2) kw ff cv x1 (fX3_sided (ff x1.toNatClampNeg) (fJxe99ae_doubleToLongBits_ccdee v84_12) (1 : Int32))).2.1))) := hn9_cj
            have hrs : ∀ q : Nat, q ≠ om → q ≠ cj → g2 q = g q := fun q h_om h_cj => (hr9 q h_om h_cj).trans (hrs q h_om h_cj)
            have hF : fX3_rest kn kc kr kt kw ff cv x1 x2 = ((fX3_becomes kn kc kr ((fX3_isThere kn kc kr kt kw ff cv x1).2) kw ff cv x1 (fX3_sided (ff x1.toNatClampNeg) (fJxe99ae_doubleToLongBits_ccdee v84_12) (1 : Int32))).1, (fX3_becomes kn kc kr ((fX3_isThere kn kc kr kt kw ff cv x1).2) kw ff cv x1 (fX3_sided (ff x1.toNatClampNeg) (fJxe99ae_doubleToLongBits_ccdee v84_12) (1 : Int32))).2.1, (fX3_becomes kn kc kr ((fX3_isThere kn kc kr kt kw ff cv x1).2) kw ff cv x1 (fX3_sided (ff x1.toNatClampNeg) (fJxe99ae_doubleToLongBits_ccdee v84_12) (1 : Int32))).2.2, (fX3_isThere kn kc kr kt kw ff cv x1).2) := (by subst e_v39_4 e_v47_5 e_v84_12; unfold fX3_rest; dsimp only; rw [if_neg c_1, if_neg c_2, if_pos c_3, if_neg c_6, if_neg c_10])
            have hF0 : (fX3_rest kn kc kr kt kw ff cv x1 x2).1 = (fX3_becomes kn kc kr ((fX3_isThere kn kc kr kt kw ff cv x1).2) kw ff cv x1 (fX3_sided (ff x1.toNatClampNeg) (fJxe99ae_doubleToLongBits_ccdee v84_12) (1 : Int32))).1 := by rw [hF]
            have hF1 : (fX3_rest kn kc kr kt kw ff cv x1 x2).2.1 = (fX3_becomes kn kc kr ((fX3_isThere kn kc kr kt kw ff cv x1).2) kw ff cv x1 (fX3_sided (ff x1.toNatClampNeg) (fJxe99ae_doubleToLongBits_ccdee v84_12) (1 : Int32))).2.1 := by rw [hF]
            have hF2 : (fX3_rest kn kc kr kt kw ff cv x1 x2).2.2.1 = (fX3_becomes kn kc kr ((fX3_isThere kn kc kr kt kw ff cv x1).2) kw ff cv x1 (fX3_sided (ff x1.toNatClampNeg) (fJxe99ae_doubleToLongBits_ccdee v84_12) (1 : Int32))).2.2 := by rw [hF]
            have hF3 : (fX3_rest kn kc kr kt kw ff cv x1 x2).2.2.2 = (fX3_isThere kn kc kr kt kw ff cv x1).2 := by rw [hF]
            exact W.lret hx hb hr (fun t ht hW => ⟨congrArg (fun z => Outcome.returned (some (Value.long z))) hF0.symm, ⟨g2, WM hP hK hD hKC0 hTC hS ht hW.alike, by rw [hF1, hF2, hF3]; exact ⟨hg_om, hg_cj, hrs⟩⟩, hS.F ht⟩) (fun q h => hS.2.2 q h) dX3_rest_126
      · refine lv_aload_n hx hb dX3_rest_19 rfl (lv_at hl 0 rfl) ?_
        refine lv_iconst (v := 2) hx hb dX3_rest_20 (by decide) ?_
        refine pg_put (ty := .int) hx hb hts hin_X3_X3_rest tyX3 tyX3_ok nmX3 hown hK hP hD hS hL_om hg_om rfl 5 (by decide) (hts (.fieldLink RX3 17 "NeedleBoardModel" "thrown" "I") (by decide +kernel)) rfl (by decide +kernel) rfl rfl (Nat.le_of_ble_eq_true rfl) dX3_rest_21 (fun H locs hP hD hS => ?_)
        obtain ⟨g2, eg2⟩ : ∃ z : Nat → va_E, z = va_up g1 om (.inr (3, [.ref fz, .ref cj, .int kn, .int kc, .int kr, .int (2 : Int32), .long kw])) := ⟨_, rfl⟩
        have hP : va_P D vwCl (va_pl L g2) H := by rw [eg2]; exact hP
        have hD : va_D (fun q => q ∈ L) (va_pl L g2) := by rw [eg2]; exact hD
        have hg_om : g2 om = .inr (3, [.ref fz, .ref cj, .int kn, .int kc, .int kr, .int (2 : Int32), .long kw]) := by rw [eg2]; exact va_up_self _ _ _
        have hg_fz : g2 fz = .inl (cyZ, 8, .inl ff) := (congrFun eg2 fz).trans ((va_up_ne _ _ ne_fz_om).trans hg_fz)
        have hg_cj : g2 cj = .inl (cyJ, 56, .inr (.inl cv)) := (congrFun eg2 cj).trans ((va_up_ne _ _ ne_cj_om).trans hg_cj)
        have hrs : ∀ q : Nat, q ≠ om → q ≠ cj → g2 q = g q := fun q h_om h_cj => (congrFun eg2 q).trans ((va_up_ne _ _ h_om).trans (hrs q h_om h_cj))
        refine lv_lconst (v := 0) hx hb dX3_rest_24 (by decide) ?_
        have hF : fX3_rest kn kc kr kt kw ff cv x1 x2 = ((0 : Int64), cv, kc, (2 : Int32)) := (by unfold fX3_rest; rw [if_neg c_1, if_neg c_2, if_neg c_3])
        have hF0 : (fX3_rest kn kc kr kt kw ff cv x1 x2).1 = (0 : Int64) := by rw [hF]
        have hF1 : (fX3_rest kn kc kr kt kw ff cv x1 x2).2.1 = cv := by rw [hF]
        have hF2 : (fX3_rest kn kc kr kt kw ff cv x1 x2).2.2.1 = kc := by rw [hF]
        have hF3 : (fX3_rest kn kc kr kt kw ff cv x1 x2).2.2.2 = (2 : Int32) := by rw [hF]
        exact W.lret hx hb hr (fun t ht hW => ⟨congrArg (fun z => Outcome.returned (some (Value.long z))) hF0.symm, ⟨g2, WM hP hK hD hKC0 hTC hS ht hW.alike, by rw [hF1, hF2, hF3]; exact ⟨hg_om, hg_cj, hrs⟩⟩, hS.F ht⟩) (fun q h => hS.2.2 q h) dX3_rest_25
  · refine lv_lconst (v := 0) hx hb dX3_rest_8 (by decide) ?_
    have hF : fX3_rest kn kc kr kt kw ff cv x1 x2 = ((0 : Int64), cv, kc, (fX3_isThere kn kc kr kt kw ff cv x1).2) := (by unfold fX3_rest; rw [if_pos c_1])
    have hF0 : (fX3_rest kn kc kr kt kw ff cv x1 x2).1 = (0 : Int64) := by rw [hF]
    have hF1 : (fX3_rest kn kc kr kt kw ff cv x1 x2).2.1 = cv := by rw [hF]
    have hF2 : (fX3_rest kn kc kr kt kw ff cv x1 x2).2.2.1 = kc := by rw [hF]
    have hF3 : (fX3_rest kn kc kr kt kw ff cv x1 x2).2.2.2 = (fX3_isThere kn kc kr kt kw ff cv x1).2 := by rw [hF]
    exact W.lret hx hb hr (fun t ht hW => ⟨congrArg (fun z => Outcome.returned (some (Value.long z))) hF0.symm, ⟨g1, WM hP hK hD hKC0 hTC hS ht hW.alike, by rw [hF1, hF2, hF3]; exact ⟨hg_om, hg_cj, hrs⟩⟩, hS.F ht⟩) (fun q h => hS.2.2 q h) dX3_rest_9
def fX3_order (kn : Int32) (kc : Int32) (kr : Int32) (kt : Int32) (kw : Int64) (ff : Nat → Int32) (cv : Nat → Int64) (x1 : Int32) (x2 : Int32) : Int32 × Int32 :=
  if ((fX3_isThere kn kc kr kt kw ff cv x1).1) = 0 then
    ((0 : Int32), (fX3_isThere kn kc kr kt kw ff cv x1).2)
  else
    if ((fX3_isThere kn kc kr ((fX3_isThere kn kc kr kt kw ff cv x1).2) kw ff cv x2).1) = 0 then
      ((0 : Int32), (fX3_isThere kn kc kr ((fX3_isThere kn kc kr kt kw ff cv x1).2) kw ff cv x2).2)
    else
      let v37_3 : Int64 := fX3_rank (1 : Int32) (fX3_wideBits (ff x1.toNatClampNeg) (fX3_get kn kc kr ((fX3_isThere kn kc kr ((fX3_isThere kn kc kr kt kw ff cv x1).2) kw ff cv x2).2) kw ff cv x1 (2 : Int32)))
      let v57_4 : Int64 := fX3_rank (1 : Int32) (fX3_wideBits (ff x2.toNatClampNeg) (fX3_get kn kc kr ((fX3_isThere kn kc kr ((fX3_isThere kn kc kr kt kw ff cv x1).2) kw ff cv x2).2) kw ff cv x2 (2 : Int32)))
      if v57_4 ≤ v37_3 then
        if v37_3 ≤ v57_4 then
          ((0 : Int32), (fX3_isThere kn kc kr ((fX3_isThere kn kc kr kt kw ff cv x1).2) kw ff cv x2).2)
        else
          ((1 : Int32), (fX3_isThere kn kc kr ((fX3_isThere kn kc kr kt kw ff cv x1).2) kw ff cv x2).2)
      else
        ((-1 : Int32), (fX3_isThere kn kc kr ((fX3_isThere kn kc kr kt kw ff cv x1).2) kw ff cv x2).2)
theorem hd_X3_order : yX3_order.cls = RX3 ∧ yX3_order.cls ≠ "java/lang/invoke/MethodHandle" ∧ yX3_order.cls ≠ "java/lang/invoke/VarHandle" ∧ (parseMethodDescriptor yX3_order.desc).map (fun d => d.parameters.length) = some 2 := by decide +kernel
theorem hin_X3_X3_order : ∀ w ∈ wsX30, w ∈ wsX3_order := by decide +kernel
set_option maxHeartbeats 1000000 in
set_option maxRecDepth 100000 in
theorem c_X3_order (l : Launch) {cyJ : ClassId} {cyZ : ClassId} (D : va_G) (tys : List (ClassId × FieldType)) (ad : Nat → Nat) (L : List Nat) (g : Nat → va_E) (om fz cj : Nat) (kn : Int32) (kc : Int32) (kr : Int32) (kt : Int32) (kw : Int64) (ff : Nat → Int32) (cv : Nat → Int64) (x1 : Int32) (x2 : Int32) (hL_om : om ∈ L) (hL_fz : fz ∈ L) (hL_cj : cj ∈ L) (hg_om : g om = .inr (3, [.ref fz, .ref cj, .int kn, .int kc, .int kr, .int kt, .long kw])) (hg_fz : g fz = .inl (cyZ, 8, .inl ff)) (hg_cj : g cj = .inl (cyJ, 56, .inr (.inl cv))) (ne_fz_om : fz ≠ om) (ne_cj_om : cj ≠ om) (htJ : tys[0]? = some (cyJ, .long)) (htZ : tys[1]? = some (cyZ, .boolean)) (hkn : 0 ≤ kn ∧ kn ≤ 8) (ho : ∀ x : Int32, vp_in x 8 → ff x.toNatClampNeg = 0 → vn_sni2f (cv (((7 : Int32) * x) + (2 : Int32)).toNatClampNeg).toInt32 = false ∧ vf_n64 (FP.f2d (cv (((7 : Int32) * x) + (2 : Int32)).toNatClampNeg).toInt32.toUInt32)) : Met l yX3_order wsX3_order ({ frames := 3, cells := 0, slots := 0, locals := 64 }) (PW D tys ad L g [.ref om, .int x1, .int x2]) (QE D tys ad L (some (.int ((fX3_order kn kc kr kt kw ff cv x1 x2).1))) (fun g1 => g1 om = .inr (3, [.ref fz, .ref cj, .int kn, .int kc, .int kr, .int ((fX3_order kn kc kr kt kw ff cv x1 x2).2), .long kw]) ∧ ∀ q : Nat, q ≠ om → g1 q = g q)) 0 0 (fun q => q ∈ L) := by
  refine Met.ofW (cc := cX3_order) (maxL := 7) (ret := (some .int)) (by decide) rfl ?_
  intro p e s m args below meth c s₁ B hml hv
  obtain ⟨rfl, ⟨hP, hK, hD0, hKC0, hTC⟩, hXN⟩ := hv
  have hP0 := hP
  have hD : va_D (fun q => q ∈ L) (va_pl L g) := we_D (fun _ h => h) hD0
  have hKC : KC ad (fun q => q ∈ L) s s.heap := hKC0.narrow (fun _ h => Or.inl h)
  have hS : va_S (fun q => q ∈ L) s.heap s.heap [] := va_S.rf
  have hx := B.exec
  have hb := B.bytes
  have hr := B.returns
  have hts := atoms_spec (ws := wsX3_order) B.pre
  have hown : s.vm.findClass RX3 = some m.cls := findClass_of_methodNamed B.named
  have hlocks := B.notSynchronized
  have hrs : ∀ q : Nat, q ≠ om → g q = g q := fun q _ => rfl
  have hl := lv_entry ([.ref om, .int x1, .int x2]) (n := 7) (Nat.le_of_ble_eq_true rfl)
  rw [lg_entry_eq]
  generalize (lg_sl ([.ref om, .int x1, .int x2]) ++ List.replicate (7 - (lg_sl ([.ref om, .int x1, .int x2])).length) Slot.unset).toArray = ls at hl ⊢
  have hl : lv_has ls 7 [(0, .ref om), (1, .int x1), (2, .int x2)] := hl
  refine lv_aload_n hx hb dX3_order_0 rfl (lv_at hl 0 rfl) ?_
  refine lv_iload_n hx hb dX3_order_1 rfl (lv_at hl 1 rfl) ?_
  refine mc_V (b := om) (As := [.int x1]) (rest := []) ⟨hx, hb, hml, hown, hts⟩ (c_X3_isThere l D tys ad L g  om fz cj kn kc kr kt kw ff cv x1 hL_om hL_fz hL_cj hg_om hg_fz hg_cj ne_fz_om ne_cj_om htJ htZ) (cwV 1 hts gX3_order_X3_isThere rfl rfl rfl hd_X3_isThere ⟨Nat.le_of_ble_eq_true rfl, Nat.le_of_ble_eq_true rfl⟩) (pg_recv hK hP hL_om hg_om rfl) (fun U hU hvm => WM hP hK hD hKC0 hTC hS hU hvm) hXN hS (fun _ h => h) rfl hl.1 rfl (lv_room (Nat.le_of_ble_eq_true rfl)) dX3_order_2 ⟨Nat.le_of_ble_eq_true rfl, Nat.le_of_ble_eq_true rfl⟩ (fun g1 H locs hp9 hP hD hS => ?_)
  refine W.eq (g2 := F0 m 5 ls [.int ((fX3_isThere kn kc kr kt kw ff cv x1).1)]) rfl ?_
  obtain ⟨hn9_om, hr9⟩ := hp9
  have hg_om : g1 om = .inr (3, [.ref fz, .ref cj, .int kn, .int kc, .int kr, .int ((fX3_isThere kn kc kr kt kw ff cv x1).2), .long kw]) := hn9_om
  have hg_fz : g1 fz = .inl (cyZ, 8, .inl ff) := (hr9 fz ne_fz_om).trans hg_fz
  have hg_cj : g1 cj = .inl (cyJ, 56, .inr (.inl cv)) := (hr9 cj ne_cj_om).trans hg_cj
  have hrs : ∀ q : Nat, q ≠ om → g1 q = g q := fun q h_om => (hr9 q h_om).trans (hrs q h_om)
  refine lv_if_eq (tgt := 16) hx hb dX3_order_5 (by decide) (fun c_1 => ?_) (fun c_1 => ?_)
  · refine lv_iconst (v := 0) hx hb dX3_order_16 (by decide) ?_
    have hF : fX3_order kn kc kr kt kw ff cv x1 x2 = ((0 : Int32), (fX3_isThere kn kc kr kt kw ff cv x1).2) := (by unfold fX3_order; rw [if_pos c_1])
    have hF0 : (fX3_order kn kc kr kt kw ff cv x1 x2).1 = (0 : Int32) := by rw [hF]
    have hF1 : (fX3_order kn kc kr kt kw ff cv x1 x2).2 = (fX3_isThere kn kc kr kt kw ff cv x1).2 := by rw [hF]
    exact W.iret hx hb hr (fun t ht hW => ⟨congrArg (fun z => Outcome.returned (some (Value.int z))) hF0.symm, ⟨g1, WM hP hK hD hKC0 hTC hS ht hW.alike, by rw [hF1]; exact ⟨hg_om, hrs⟩⟩, hS.F ht⟩) (fun q h => hS.2.2 q h) dX3_order_17
  · refine lv_aload_n hx hb dX3_order_8 rfl (lv_at hl 0 rfl) ?_
    refine lv_iload_n hx hb dX3_order_9 rfl (lv_at hl 2 rfl) ?_
    refine mc_V (b := om) (As := [.int x2]) (rest := []) ⟨hx, hb, hml, hown, hts⟩ (c_X3_isThere l D tys ad L g1  om fz cj kn kc kr ((fX3_isThere kn kc kr kt kw ff cv x1).2) kw ff cv x2 hL_om hL_fz hL_cj hg_om hg_fz hg_cj ne_fz_om ne_cj_om htJ htZ) (cwV 1 hts gX3_order_X3_isThere rfl rfl rfl hd_X3_isThere ⟨Nat.le_of_ble_eq_true rfl, Nat.le_of_ble_eq_true rfl⟩) (pg_recv hK hP hL_om hg_om rfl) (fun U hU hvm => WM hP hK hD hKC0 hTC hS hU hvm) hXN hS (fun _ h => h) rfl hl.1 rfl (lv_room (Nat.le_of_ble_eq_true rfl)) dX3_order_10 ⟨Nat.le_of_ble_eq_true rfl, Nat.le_of_ble_eq_true rfl⟩ (fun g2 H locs hp9 hP hD hS => ?_)
    refine W.eq (g2 := F0 m 13 ls [.int ((fX3_isThere kn kc kr ((fX3_isThere kn kc kr kt kw ff cv x1).2) kw ff cv x2).1)]) rfl ?_
    obtain ⟨hn9_om, hr9⟩ := hp9
    have hg_om : g2 om = .inr (3, [.ref fz, .ref cj, .int kn, .int kc, .int kr, .int ((fX3_isThere kn kc kr ((fX3_isThere kn kc kr kt kw ff cv x1).2) kw ff cv x2).2), .long kw]) := hn9_om
    have hg_fz : g2 fz = .inl (cyZ, 8, .inl ff) := (hr9 fz ne_fz_om).trans hg_fz
    have hg_cj : g2 cj = .inl (cyJ, 56, .inr (.inl cv)) := (hr9 cj ne_cj_om).trans hg_cj
    have hrs : ∀ q : Nat, q ≠ om → g2 q = g q := fun q h_om => (hr9 q h_om).trans (hrs q h_om)
    refine lv_if_ne (tgt := 18) hx hb dX3_order_13 (by decide) (fun c_2 => ?_) (fun c_2 => ?_)
    · refine lv_iconst (v := 1) hx hb dX3_order_18 (by decide) ?_
      refine lv_aload_n hx hb dX3_order_19 rfl (lv_at hl 0 rfl) ?_
      refine pg_get hx hb hts hin_X3_X3_order hown hK hP hL_om hg_om rfl 0 (by decide) (hts (.fieldLink RX3 7 "NeedleBoardModel" "isFine" "[Z") (by decide +kernel)) rfl dX3_order_20 ?_
      refine lv_iload_n hx hb dX3_order_23 rfl (lv_at hl 1 rfl) ?_
      refine pg_zald hx hb hK hP 1 hL_fz hg_fz htZ (it_in hkn c_1) dX3_order_24 ?_
      refine lv_aload_n hx hb dX3_order_25 rfl (lv_at hl 0 rfl) ?_
      refine lv_iload_n hx hb dX3_order_26 rfl (lv_at hl 1 rfl) ?_
      refine lv_iconst (v := 2) hx hb dX3_order_27 (by decide) ?_
      refine rc_V (b := om) (r := .long (fX3_get kn kc kr ((fX3_isThere kn kc kr ((fX3_isThere kn kc kr kt kw ff cv x1).2) kw ff cv x2).2) kw ff cv x1 (2 : Int32))) (As := [.int x1, .int (2 : Int32)]) (rest := [.int (ff x1.toNatClampNeg), .int (1 : Int32)]) ⟨hx, hb, hml, hown, hts⟩ (c_X3_get l D tys ad L g2  om fz cj kn kc kr ((fX3_isThere kn kc kr ((fX3_isThere kn kc kr kt kw ff cv x1).2) kw ff cv x2).2) kw ff cv x1 (2 : Int32) hL_om hL_fz hL_cj hg_om hg_fz hg_cj htJ htZ (ix_in (it_in hkn c_1) (by unfold vp_in; decide))) (cwV 2 hts gX3_order_X3_get rfl rfl rfl hd_X3_get ⟨Nat.le_of_ble_eq_true rfl, Nat.le_of_ble_eq_true rfl⟩) (pg_recv hK hP hL_om hg_om rfl) (fun U hU hvm => WM hP hK hD hKC0 hTC hS hU hvm) hXN rfl hl.1 rfl (lv_room (Nat.le_of_ble_eq_true rfl)) dX3_order_28 ⟨Nat.le_of_ble_eq_true rfl, Nat.le_of_ble_eq_true rfl⟩ ?_
      refine pc_0 (As := [.int (ff x1.toNatClampNeg), .long (fX3_get kn kc kr ((fX3_isThere kn kc kr ((fX3_isThere kn kc kr kt kw ff cv x1).2) kw ff cv x2).2) kw ff cv x1 (2 : Int32))]) (rest := [.int (1 : Int32)]) (r := .long (fX3_wideBits (ff x1.toNatClampNeg) (fX3_get kn kc kr ((fX3_isThere kn kc kr ((fX3_isThere kn kc kr kt kw ff cv x1).2) kw ff cv x2).2) kw ff cv x1 (2 : Int32)))) ⟨hx, hb, hml, hown, hts⟩ (c_X3_wideBits l (ff x1.toNatClampNeg) (fX3_get kn kc kr ((fX3_isThere kn kc kr ((fX3_isThere kn kc kr kt kw ff cv x1).2) kw ff cv x2).2) kw ff cv x1 (2 : Int32)) (ho _ (it_in hkn c_1))) (va_cwS 2 hts gX3_order_X3_wideBits rfl rfl rfl hd_X3_wideBits ⟨Nat.le_of_ble_eq_true rfl, Nat.le_of_ble_eq_true rfl⟩) rfl hl.1 rfl (lv_room (Nat.le_of_ble_eq_true rfl)) dX3_order_31 ⟨Nat.le_of_ble_eq_true rfl, Nat.le_of_ble_eq_true rfl⟩ ?_
      refine pc_0 (As := [.int (1 : Int32), .long (fX3_wideBits (ff x1.toNatClampNeg) (fX3_get kn kc kr ((fX3_isThere kn kc kr ((fX3_isThere kn kc kr kt kw ff cv x1).2) kw ff cv x2).2) kw ff cv x1 (2 : Int32)))]) (rest := []) (r := .long (fX3_rank (1 : Int32) (fX3_wideBits (ff x1.toNatClampNeg) (fX3_get kn kc kr ((fX3_isThere kn kc kr ((fX3_isThere kn kc kr kt kw ff cv x1).2) kw ff cv x2).2) kw ff cv x1 (2 : Int32))))) ⟨hx, hb, hml, hown, hts⟩ (c_X3_rank l (1 : Int32) (fX3_wideBits (ff x1.toNatClampNeg) (fX3_get kn kc kr ((fX3_isThere kn kc kr ((fX3_isThere kn kc kr kt kw ff cv x1).2) kw ff cv x2).2) kw ff cv x1 (2 : Int32)))) (va_cwS 2 hts gX3_order_X3_rank rfl rfl rfl hd_X3_rank ⟨Nat.le_of_ble_eq_true rfl, Nat.le_of_ble_eq_true rfl⟩) rfl hl.1 rfl (lv_room (Nat.le_of_ble_eq_true rfl)) dX3_order_34 ⟨Nat.le_of_ble_eq_true rfl, Nat.le_of_ble_eq_true rfl⟩ ?_
      refine lv_topl (fun v37_3 e_v37_3 => ?_)
      refine lv_lstore_n (lv' := [(3, .long v37_3), (0, .ref om), (1, .int x1), (2, .int x2)]) hx hb dX3_order_37 rfl hl (by decide) rfl (fun ls hl => ?_)
      refine lv_iconst (v := 1) hx hb dX3_order_38 (by decide) ?_
      refine lv_aload_n hx hb dX3_order_39 rfl (lv_at hl 1 rfl) ?_
      refine pg_get hx hb hts hin_X3_X3_order hown hK hP hL_om hg_om rfl 0 (by decide) (hts (.fieldLink RX3 7 "NeedleBoardModel" "isFine" "[Z") (by decide +kernel)) rfl dX3_order_40 ?_
      refine lv_iload_n hx hb dX3_order_43 rfl (lv_at hl 3 rfl) ?_
      refine pg_zald hx hb hK hP 1 hL_fz hg_fz htZ (it_in hkn c_2) dX3_order_44 ?_
      refine lv_aload_n hx hb dX3_order_45 rfl (lv_at hl 1 rfl) ?_
      refine lv_iload_n hx hb dX3_order_46 rfl (lv_at hl 3 rfl) ?_
      refine lv_iconst (v := 2) hx hb dX3_order_47 (by decide) ?_
      refine rc_V (b := om) (r := .long (fX3_get kn kc kr ((fX3_isThere kn kc kr ((fX3_isThere kn kc kr kt kw ff cv x1).2) kw ff cv x2).2) kw ff cv x2 (2 : Int32))) (As := [.int x2, .int (2 : Int32)]) (rest := [.int (ff x2.toNatClampNeg), .int (1 : Int32)]) ⟨hx, hb, hml, hown, hts⟩ (c_X3_get l D tys ad L g2  om fz cj kn kc kr ((fX3_isThere kn kc kr ((fX3_isThere kn kc kr kt kw ff cv x1).2) kw ff cv x2).2) kw ff cv x2 (2 : Int32) hL_om hL_fz hL_cj hg_om hg_fz hg_cj htJ htZ (ix_in (it_in hkn c_2) (by unfold vp_in; decide))) (cwV 2 hts gX3_order_X3_get rfl rfl rfl hd_X3_get ⟨Nat.le_of_ble_eq_true rfl, Nat.le_of_ble_eq_true rfl⟩) (pg_recv hK hP hL_om hg_om rfl) (fun U hU hvm => WM hP hK hD hKC0 hTC hS hU hvm) hXN rfl hl.1 rfl (lv_room (Nat.le_of_ble_eq_true rfl)) dX3_order_48 ⟨Nat.le_of_ble_eq_true rfl, Nat.le_of_ble_eq_true rfl⟩ ?_
      refine pc_0 (As := [.int (ff x2.toNatClampNeg), .long (fX3_get kn kc kr ((fX3_isThere kn kc kr ((fX3_isThere kn kc kr kt kw ff cv x1).2) kw ff cv x2).2) kw ff cv x2 (2 : Int32))]) (rest := [.int (1 : Int32)]) (r := .long (fX3_wideBits (ff x2.toNatClampNeg) (fX3_get kn kc kr ((fX3_isThere kn kc kr ((fX3_isThere kn kc kr kt kw ff cv x1).2) kw ff cv x2).2) kw ff cv x2 (2 : Int32)))) ⟨hx, hb, hml, hown, hts⟩ (c_X3_wideBits l (ff x2.toNatClampNeg) (fX3_get kn kc kr ((fX3_isThere kn kc kr ((fX3_isThere kn kc kr kt kw ff cv x1).2) kw ff cv x2).2) kw ff cv x2 (2 : Int32)) (ho _ (it_in hkn c_2))) (va_cwS 2 hts gX3_order_X3_wideBits rfl rfl rfl hd_X3_wideBits ⟨Nat.le_of_ble_eq_true rfl, Nat.le_of_ble_eq_true rfl⟩) rfl hl.1 rfl (lv_room (Nat.le_of_ble_eq_true rfl)) dX3_order_51 ⟨Nat.le_of_ble_eq_true rfl, Nat.le_of_ble_eq_true rfl⟩ ?_
      refine pc_0 (As := [.int (1 : Int32), .long (fX3_wideBits (ff x2.toNatClampNeg) (fX3_get kn kc kr ((fX3_isThere kn kc kr ((fX3_isThere kn kc kr kt kw ff cv x1).2) kw ff cv x2).2) kw ff cv x2 (2 : Int32)))]) (rest := []) (r := .long (fX3_rank (1 : Int32) (fX3_wideBits (ff x2.toNatClampNeg) (fX3_get kn kc kr ((fX3_isThere kn kc kr ((fX3_isThere kn kc kr kt kw ff cv x1).2) kw ff cv x2).2) kw ff cv x2 (2 : Int32))))) ⟨hx, hb, hml, hown, hts⟩ (c_X3_rank l (1 : Int32) (fX3_wideBits (ff x2.toNatClampNeg) (fX3_get kn kc kr ((fX3_isThere kn kc kr ((fX3_isThere kn kc kr kt kw ff cv x1).2) kw ff cv x2).2) kw ff cv x2 (2 : Int32)))) (va_cwS 2 hts gX3_order_X3_rank rfl rfl rfl hd_X3_rank ⟨Nat.le_of_ble_eq_true rfl, Nat.le_of_ble_eq_true rfl⟩) rfl hl.1 rfl (lv_room (Nat.le_of_ble_eq_true rfl)) dX3_order_54 ⟨Nat.le_of_ble_eq_true rfl, Nat.le_of_ble_eq_true rfl⟩ ?_
      refine lv_topl (fun v57_4 e_v57_4 => ?_)
      refine lv_lstore (lv' := [(5, .long v57_4), (3, .long v37_3), (0, .ref om), (1, .int x1), (2, .int x2)]) hx hb dX3_order_57 hl (by decide) rfl (fun ls hl => ?_)
      refine lv_lload_n hx hb dX3_order_59 rfl (lv_at hl 1 rfl) ?_
      refine lv_lload hx hb dX3_order_60 (lv_at hl 0 rfl) ?_
      refine pl_ge (tgt := 70) hx hb dX3_order_62 dX3_order_63 (by decide) (fun c_5 => ?_) (fun c_5 => ?_)
      · refine lv_lload_n hx hb dX3_order_70 rfl (lv_at hl 1 rfl) ?_
        refine lv_lload hx hb dX3_order_71 (lv_at hl 0 rfl) ?_
        refine pl_le (tgt := 81) hx hb dX3_order_73 dX3_order_74 (by decide) (fun c_6 => ?_) (fun c_6 => ?_)
        · refine lv_iconst (v := 0) hx hb dX3_order_81 (by decide) ?_
          have hF : fX3_order kn kc kr kt kw ff cv x1 x2 = ((0 : Int32), (fX3_isThere kn kc kr ((fX3_isThere kn kc kr kt kw ff cv x1).2) kw ff cv x2).2) := (by subst e_v37_3 e_v57_4; unfold fX3_order; dsimp only; rw [if_neg c_1, if_neg c_2, if_pos c_5, if_pos c_6])
          have hF0 : (fX3_order kn kc kr kt kw ff cv x1 x2).1 = (0 : Int32) := by rw [hF]
          have hF1 : (fX3_order kn kc kr kt kw ff cv x1 x2).2 = (fX3_isThere kn kc kr ((fX3_isThere kn kc kr kt kw ff cv x1).2) kw ff cv x2).2 := by rw [hF]
          exact W.iret hx hb hr (fun t ht hW => ⟨congrArg (fun z => Outcome.returned (some (Value.int z))) hF0.symm, ⟨g2, WM hP hK hD hKC0 hTC hS ht hW.alike, by rw [hF1]; exact ⟨hg_om, hrs⟩⟩, hS.F ht⟩) (fun q h => hS.2.2 q h) dX3_order_82
        · refine lv_iconst (v := 1) hx hb dX3_order_77 (by decide) ?_
          refine lv_goto (tgt := 82) hx hb dX3_order_78 (by decide) ?_
          have hF : fX3_order kn kc kr kt kw ff cv x1 x2 = ((1 : Int32), (fX3_isThere kn kc kr ((fX3_isThere kn kc kr kt kw ff cv x1).2) kw ff cv x2).2) := (by subst e_v37_3 e_v57_4; unfold fX3_order; dsimp only; rw [if_neg c_1, if_neg c_2, if_pos c_5, if_neg c_6])
          have hF0 : (fX3_order kn kc kr kt kw ff cv x1 x2).1 = (1 : Int32) := by rw [hF]
          have hF1 : (fX3_order kn kc kr kt kw ff cv x1 x2).2 = (fX3_isThere kn kc kr ((fX3_isThere kn kc kr kt kw ff cv x1).2) kw ff cv x2).2 := by rw [hF]
          exact W.iret hx hb hr (fun t ht hW => ⟨congrArg (fun z => Outcome.returned (some (Value.int z))) hF0.symm, ⟨g2, WM hP hK hD hKC0 hTC hS ht hW.alike, by rw [hF1]; exact ⟨hg_om, hrs⟩⟩, hS.F ht⟩) (fun q h => hS.2.2 q h) dX3_order_82
      · refine lv_iconst (v := (-1)) hx hb dX3_order_66 (by decide) ?_
        refine lv_goto (tgt := 82) hx hb dX3_order_67 (by decide) ?_
        have hF : fX3_order kn kc kr kt kw ff cv x1 x2 = ((-1 : Int32), (fX3_isThere kn kc kr ((fX3_isThere kn kc kr kt kw ff cv x1).2) kw ff cv x2).2) := (by subst e_v37_3 e_v57_4; unfold fX3_order; dsimp only; rw [if_neg c_1, if_neg c_2, if_neg c_5])
        have hF0 : (fX3_order kn kc kr kt kw ff cv x1 x2).1 = (-1 : Int32) := by rw [hF]
        have hF1 : (fX3_order kn kc kr kt kw ff cv x1 x2).2 = (fX3_isThere kn kc kr ((fX3_isThere kn kc kr kt kw ff cv x1).2) kw ff cv x2).2 := by rw [hF]
        exact W.iret hx hb hr (fun t ht hW => ⟨congrArg (fun z => Outcome.returned (some (Value.int z))) hF0.symm, ⟨g2, WM hP hK hD hKC0 hTC hS ht hW.alike, by rw [hF1]; exact ⟨hg_om, hrs⟩⟩, hS.F ht⟩) (fun q h => hS.2.2 q h) dX3_order_82
    · refine lv_iconst (v := 0) hx hb dX3_order_16 (by decide) ?_
      have hF : fX3_order kn kc kr kt kw ff cv x1 x2 = ((0 : Int32), (fX3_isThere kn kc kr ((fX3_isThere kn kc kr kt kw ff cv x1).2) kw ff cv x2).2) := (by unfold fX3_order; rw [if_neg c_1, if_pos c_2])
      have hF0 : (fX3_order kn kc kr kt kw ff cv x1 x2).1 = (0 : Int32) := by rw [hF]
      have hF1 : (fX3_order kn kc kr kt kw ff cv x1 x2).2 = (fX3_isThere kn kc kr ((fX3_isThere kn kc kr kt kw ff cv x1).2) kw ff cv x2).2 := by rw [hF]
      exact W.iret hx hb hr (fun t ht hW => ⟨congrArg (fun z => Outcome.returned (some (Value.int z))) hF0.symm, ⟨g2, WM hP hK hD hKC0 hTC hS ht hW.alike, by rw [hF1]; exact ⟨hg_om, hrs⟩⟩, hS.F ht⟩) (fun q h => hS.2.2 q h) dX3_order_17
