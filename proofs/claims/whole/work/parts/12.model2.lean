theorem kn_in {kn : Int32} (hkn : 0 ≤ kn ∧ kn ≤ 8) (h : ¬ kn = 8) : vp_in kn 8 := by
  have a1 := Int32.le_iff_toInt_le.mp hkn.1
  have a3 := Int32.le_iff_toInt_le.mp hkn.2
  have a4 : (0 : Int32).toInt = 0 := rfl
  have a5 : (8 : Int32).toInt = 8 := rfl
  have a6 : ¬ kn.toInt = 8 := fun q => h (Int32.toInt_inj.mp (by rw [q]; rfl))
  exact vp_in_iff.mpr ⟨by omega, by omega⟩
/-- two numbers of a kind whose sum is one -/
def SumOK (f : Int32) (a b : Int64) : Prop := (¬ f = 0 → vn_snl2d a = false ∧ vn_snl2d b = false ∧ vf_n64 (FP.dadd a.toUInt64 b.toUInt64)) ∧ (f = 0 → vn_sni2f a.toInt32 = false ∧ vn_sni2f b.toInt32 = false ∧ vf_n32 (FP.fadd a.toInt32.toUInt32 b.toInt32.toUInt32))
def WhOK (x : UInt64) : Prop := Op.cmpValue (FP.dcmp x 4841369599423283200) .l < 0 → vf_n64 (FP.dsub x (FP.l2d (FP.d2l x))) ∧ vf_n64 (FP.dadd (FP.l2d (FP.d2l x)) FP.dconst1)
theorem bz_X3_alike (x0 : Int32) (x1 x3 : Int64) : fX3_alike x0 x1 x3 = 0 ∨ fX3_alike x0 x1 x3 = 1 := by
  unfold fX3_alike
  repeat' split
  all_goals first | exact Or.inl rfl | exact Or.inr rfl
theorem bz_X0_areAlike (i : Nat) (x1 x3 : Int64) : fX0_areAlike i x1 x3 = 0 ∨ fX0_areAlike i x1 x3 = 1 := by
  unfold fX0_areAlike
  repeat' split
  all_goals first | exact Or.inl rfl | exact Or.inr rfl
def fX3_put (kn : Int32) (kc : Int32) (kr : Int32) (kt : Int32) (kw : Int64) (ff : Nat → Int32) (cv : Nat → Int64) (x1 : Int32) (x2 : Int64) : Int64 × (Nat → Int64) × Int32 × Int32 :=
  if ((fX3_may kn kc kr kt kw ff cv x1 x2).1) = 0 then
    ((0 : Int64), cv, kc, (fX3_may kn kc kr kt kw ff cv x1 x2).2)
  else
    ((fX3_becomes kn kc kr ((fX3_may kn kc kr kt kw ff cv x1 x2).2) kw ff cv x1 (fX3_own (ff x1.toNatClampNeg) x2)).1, (fX3_becomes kn kc kr ((fX3_may kn kc kr kt kw ff cv x1 x2).2) kw ff cv x1 (fX3_own (ff x1.toNatClampNeg) x2)).2.1, (fX3_becomes kn kc kr ((fX3_may kn kc kr kt kw ff cv x1 x2).2) kw ff cv x1 (fX3_own (ff x1.toNatClampNeg) x2)).2.2, (fX3_may kn kc kr kt kw ff cv x1 x2).2)
theorem hd_X3_put : yX3_put.cls = RX3 ∧ yX3_put.cls ≠ "java/lang/invoke/MethodHandle" ∧ yX3_put.cls ≠ "java/lang/invoke/VarHandle" ∧ (parseMethodDescriptor yX3_put.desc).map (fun d => d.parameters.length) = some 2 := by decide +kernel
theorem hin_X3_X3_put : ∀ w ∈ wsX30, w ∈ wsX3_put := by decide +kernel
set_option maxHeartbeats 1000000 in
set_option maxRecDepth 100000 in
theorem c_X3_put (l : Launch) {cyJ : ClassId} {cyZ : ClassId} (D : va_G) (tys : List (ClassId × FieldType)) (ad : Nat → Nat) (L : List Nat) (g : Nat → va_E) (om fz cj : Nat) (kn : Int32) (kc : Int32) (kr : Int32) (kt : Int32) (kw : Int64) (ff : Nat → Int32) (cv : Nat → Int64) (x1 : Int32) (x2 : Int64) (hL_om : om ∈ L) (hL_fz : fz ∈ L) (hL_cj : cj ∈ L) (hg_om : g om = .inr (3, [.ref fz, .ref cj, .int kn, .int kc, .int kr, .int kt, .long kw])) (hg_fz : g fz = .inl (cyZ, 8, .inl ff)) (hg_cj : g cj = .inl (cyJ, 56, .inr (.inl cv))) (ne_om_cj : om ≠ cj) (ne_fz_om : fz ≠ om) (ne_fz_cj : fz ≠ cj) (ne_cj_om : cj ≠ om) (htJ : tys[0]? = some (cyJ, .long)) (htZ : tys[1]? = some (cyZ, .boolean)) (hkn : 0 ≤ kn ∧ kn ≤ 8) : Met l yX3_put wsX3_put ({ frames := 4, cells := 0, slots := 0, locals := 94 }) (PW D tys ad L g [.ref om, .int x1, .long x2]) (QE D tys ad L (some (.long ((fX3_put kn kc kr kt kw ff cv x1 x2).1))) (fun g1 => g1 om = .inr (3, [.ref fz, .ref cj, .int kn, .int ((fX3_put kn kc kr kt kw ff cv x1 x2).2.2.1), .int kr, .int ((fX3_put kn kc kr kt kw ff cv x1 x2).2.2.2), .long kw]) ∧ g1 cj = .inl (cyJ, 56, .inr (.inl ((fX3_put kn kc kr kt kw ff cv x1 x2).2.1))) ∧ ∀ q : Nat, q ≠ om → q ≠ cj → g1 q = g q)) 0 0 (fun q => q ∈ L) := by
  refine Met.ofW (cc := cX3_put) (maxL := 4) (ret := (some .long)) (by decide) rfl ?_
  intro p e s m args below meth c s₁ B hml hv
  obtain ⟨rfl, ⟨hP, hK, hD0, hKC0, hTC⟩, hXN⟩ := hv
  have hP0 := hP
  have hD : va_D (fun q => q ∈ L) (va_pl L g) := we_D (fun _ h => h) hD0
  have hKC : KC ad (fun q => q ∈ L) s s.heap := hKC0.narrow (fun _ h => Or.inl h)
  have hS : va_S (fun q => q ∈ L) s.heap s.heap [] := va_S.rf
  have hx := B.exec
  have hb := B.bytes
  have hr := B.returns
  have hts := atoms_spec (ws := wsX3_put) B.pre
  have hown : s.vm.findClass RX3 = some m.cls := findClass_of_methodNamed B.named
  have hlocks := B.notSynchronized
  have hrs : ∀ q : Nat, q ≠ om → q ≠ cj → g q = g q := fun q _ _ => rfl
  have hl := lv_entry ([.ref om, .int x1, .long x2]) (n := 4) (Nat.le_of_ble_eq_true rfl)
  rw [lg_entry_eq]
  generalize (lg_sl ([.ref om, .int x1, .long x2]) ++ List.replicate (4 - (lg_sl ([.ref om, .int x1, .long x2])).length) Slot.unset).toArray = ls at hl ⊢
  have hl : lv_has ls 4 [(0, .ref om), (1, .int x1), (2, .long x2)] := hl
  refine lv_aload_n hx hb dX3_put_0 rfl (lv_at hl 0 rfl) ?_
  refine lv_iload_n hx hb dX3_put_1 rfl (lv_at hl 1 rfl) ?_
  refine lv_lload_n hx hb dX3_put_2 rfl (lv_at hl 2 rfl) ?_
  refine mc_V (b := om) (As := [.int x1, .long x2]) (rest := []) ⟨hx, hb, hml, hown, hts⟩ (c_X3_may l D tys ad L g  om fz cj kn kc kr kt kw ff cv x1 x2 hL_om hL_fz hL_cj hg_om hg_fz hg_cj ne_fz_om ne_cj_om htJ htZ hkn) (cwV 2 hts gX3_put_X3_may rfl rfl rfl hd_X3_may ⟨Nat.le_of_ble_eq_true rfl, Nat.le_of_ble_eq_true rfl⟩) (pg_recv hK hP hL_om hg_om rfl) (fun U hU hvm => WM hP hK hD hKC0 hTC hS hU hvm) hXN hS (fun _ h => h) rfl hl.1 rfl (lv_room (Nat.le_of_ble_eq_true rfl)) dX3_put_3 ⟨Nat.le_of_ble_eq_true rfl, Nat.le_of_ble_eq_true rfl⟩ (fun g1 H locs hp9 hP hD hS => ?_)
  refine W.eq (g2 := F0 m 6 ls [.int ((fX3_may kn kc kr kt kw ff cv x1 x2).1)]) rfl ?_
  obtain ⟨hn9_om, hr9⟩ := hp9
  have hg_om : g1 om = .inr (3, [.ref fz, .ref cj, .int kn, .int kc, .int kr, .int ((fX3_may kn kc kr kt kw ff cv x1 x2).2), .long kw]) := hn9_om
  have hg_fz : g1 fz = .inl (cyZ, 8, .inl ff) := (hr9 fz ne_fz_om).trans hg_fz
  have hg_cj : g1 cj = .inl (cyJ, 56, .inr (.inl cv)) := (hr9 cj ne_cj_om).trans hg_cj
  have hrs : ∀ q : Nat, q ≠ om → q ≠ cj → g1 q = g q := fun q h_om h_cj => (hr9 q h_om).trans (hrs q h_om h_cj)
  refine lv_if_eq (tgt := 27) hx hb dX3_put_6 (by decide) (fun c_1 => ?_) (fun c_1 => ?_)
  · refine lv_lconst (v := 0) hx hb dX3_put_27 (by decide) ?_
    have hF : fX3_put kn kc kr kt kw ff cv x1 x2 = ((0 : Int64), cv, kc, (fX3_may kn kc kr kt kw ff cv x1 x2).2) := (by unfold fX3_put; rw [if_pos c_1])
    have hF0 : (fX3_put kn kc kr kt kw ff cv x1 x2).1 = (0 : Int64) := by rw [hF]
    have hF1 : (fX3_put kn kc kr kt kw ff cv x1 x2).2.1 = cv := by rw [hF]
    have hF2 : (fX3_put kn kc kr kt kw ff cv x1 x2).2.2.1 = kc := by rw [hF]
    have hF3 : (fX3_put kn kc kr kt kw ff cv x1 x2).2.2.2 = (fX3_may kn kc kr kt kw ff cv x1 x2).2 := by rw [hF]
    exact W.lret hx hb hr (fun t ht hW => ⟨congrArg (fun z => Outcome.returned (some (Value.long z))) hF0.symm, ⟨g1, WM hP hK hD hKC0 hTC hS ht hW.alike, by rw [hF1, hF2, hF3]; exact ⟨hg_om, hg_cj, hrs⟩⟩, hS.F ht⟩) (fun q h => hS.2.2 q h) dX3_put_28
  · refine lv_aload_n hx hb dX3_put_9 rfl (lv_at hl 0 rfl) ?_
    refine lv_iload_n hx hb dX3_put_10 rfl (lv_at hl 1 rfl) ?_
    refine lv_aload_n hx hb dX3_put_11 rfl (lv_at hl 0 rfl) ?_
    refine pg_get hx hb hts hin_X3_X3_put hown hK hP hL_om hg_om rfl 0 (by decide) (hts (.fieldLink RX3 7 "NeedleBoardModel" "isFine" "[Z") (by decide +kernel)) rfl dX3_put_12 ?_
    refine lv_iload_n hx hb dX3_put_15 rfl (lv_at hl 1 rfl) ?_
    refine pg_zald hx hb hK hP 1 hL_fz hg_fz htZ (may_in hkn c_1) dX3_put_16 ?_
    refine lv_lload_n hx hb dX3_put_17 rfl (lv_at hl 2 rfl) ?_
    refine pc_0 (As := [.int (ff x1.toNatClampNeg), .long x2]) (rest := [.int x1, .ref om]) (r := .long (fX3_own (ff x1.toNatClampNeg) x2)) ⟨hx, hb, hml, hown, hts⟩ (c_X3_own l (ff x1.toNatClampNeg) x2) (va_cwS 2 hts gX3_put_X3_own rfl rfl rfl hd_X3_own ⟨Nat.le_of_ble_eq_true rfl, Nat.le_of_ble_eq_true rfl⟩) rfl hl.1 rfl (lv_room (Nat.le_of_ble_eq_true rfl)) dX3_put_18 ⟨Nat.le_of_ble_eq_true rfl, Nat.le_of_ble_eq_true rfl⟩ ?_
    refine mc_V (b := om) (As := [.int x1, .long (fX3_own (ff x1.toNatClampNeg) x2)]) (rest := []) ⟨hx, hb, hml, hown, hts⟩ (c_X3_becomes l D tys ad L g1  om fz cj kn kc kr ((fX3_may kn kc kr kt kw ff cv x1 x2).2) kw ff cv x1 (fX3_own (ff x1.toNatClampNeg) x2) hL_om hL_fz hL_cj hg_om hg_fz hg_cj ne_om_cj ne_fz_om ne_fz_cj ne_cj_om htJ htZ (may_in hkn c_1)) (cwV 2 hts gX3_put_X3_becomes rfl rfl rfl hd_X3_becomes ⟨Nat.le_of_ble_eq_true rfl, Nat.le_of_ble_eq_true rfl⟩) (pg_recv hK hP hL_om hg_om rfl) (fun U hU hvm => WM hP hK hD hKC0 hTC hS hU hvm) hXN hS (fun _ h => h) rfl hl.1 rfl (lv_room (Nat.le_of_ble_eq_true rfl)) dX3_put_21 ⟨Nat.le_of_ble_eq_true rfl, Nat.le_of_ble_eq_true rfl⟩ (fun g2 H locs hp9 hP hD hS => ?_)
    refine W.eq (g2 := F0 m 24 ls [.long ((fX3_becomes kn kc kr ((fX3_may kn kc kr kt kw ff cv x1 x2).2) kw ff cv x1 (fX3_own (ff x1.toNatClampNeg) x2)).1)]) rfl ?_
    obtain ⟨hn9_om, hn9_cj, hr9⟩ := hp9
    have hg_om : g2 om = .inr (3, [.ref fz, .ref cj, .int kn, .int ((fX3_becomes kn kc kr ((fX3_may kn kc kr kt kw ff cv x1 x2).2) kw ff cv x1 (fX3_own (ff x1.toNatClampNeg) x2)).2.2), .int kr, .int ((fX3_may kn kc kr kt kw ff cv x1 x2).2), .long kw]) := hn9_om
    have hg_fz : g2 fz = .inl (cyZ, 8, .inl ff) := (hr9 fz ne_fz_om ne_fz_cj).trans hg_fz
    have hg_cj : g2 cj = .inl (cyJ, 56, .inr (.inl ((fX3_becomes kn kc kr ((fX3_may kn kc kr kt kw ff cv x1 x2).2) kw ff cv x1 (fX3_own (ff x1.toNatClampNeg) x2)).2.1))) := hn9_cj
    have hrs : ∀ q : Nat, q ≠ om → q ≠ cj → g2 q = g q := fun q h_om h_cj => (hr9 q h_om h_cj).trans (hrs q h_om h_cj)
    refine lv_goto (tgt := 28) hx hb dX3_put_24 (by decide) ?_
    have hF : fX3_put kn kc kr kt kw ff cv x1 x2 = ((fX3_becomes kn kc kr ((fX3_may kn kc kr kt kw ff cv x1 x2).2) kw ff cv x1 (fX3_own (ff x1.toNatClampNeg) x2)).1, (fX3_becomes kn kc kr ((fX3_may kn kc kr kt kw ff cv x1 x2).2) kw ff cv x1 (fX3_own (ff x1.toNatClampNeg) x2)).2.1, (fX3_becomes kn kc kr ((fX3_may kn kc kr kt kw ff cv x1 x2).2) kw ff cv x1 (fX3_own (ff x1.toNatClampNeg) x2)).2.2, (fX3_may kn kc kr kt kw ff cv x1 x2).2) := (by unfold fX3_put; rw [if_neg c_1])
    have hF0 : (fX3_put kn kc kr kt kw ff cv x1 x2).1 = (fX3_becomes kn kc kr ((fX3_may kn kc kr kt kw ff cv x1 x2).2) kw ff cv x1 (fX3_own (ff x1.toNatClampNeg) x2)).1 := by rw [hF]
    have hF1 : (fX3_put kn kc kr kt kw ff cv x1 x2).2.1 = (fX3_becomes kn kc kr ((fX3_may kn kc kr kt kw ff cv x1 x2).2) kw ff cv x1 (fX3_own (ff x1.toNatClampNeg) x2)).2.1 := by rw [hF]
    have hF2 : (fX3_put kn kc kr kt kw ff cv x1 x2).2.2.1 = (fX3_becomes kn kc kr ((fX3_may kn kc kr kt kw ff cv x1 x2).2) kw ff cv x1 (fX3_own (ff x1.toNatClampNeg) x2)).2.2 := by rw [hF]
    have hF3 : (fX3_put kn kc kr kt kw ff cv x1 x2).2.2.2 = (fX3_may kn kc kr kt kw ff cv x1 x2).2 := by rw [hF]
    exact W.lret hx hb hr (fun t ht hW => ⟨congrArg (fun z => Outcome.returned (some (Value.long z))) hF0.symm, ⟨g2, WM hP hK hD hKC0 hTC hS ht hW.alike, by rw [hF1, hF2, hF3]; exact ⟨hg_om, hg_cj, hrs⟩⟩, hS.F ht⟩) (fun q h => hS.2.2 q h) dX3_put_28
def fX3_damp (kn : Int32) (kc : Int32) (kr : Int32) (kt : Int32) (kw : Int64) (ff : Nat → Int32) (cv : Nat → Int64) (x1 : Int32) (x2 : Int64) : Int64 × (Nat → Int64) × Int32 :=
  if ((fX3_may kn kc kr kt kw ff cv x1 x2).1) = 0 then
    ((0 : Int64), cv, (fX3_may kn kc kr kt kw ff cv x1 x2).2)
  else
    (fX3_get kn kc kr ((fX3_may kn kc kr kt kw ff cv x1 x2).2) kw ff (fX3_set kn kc kr ((fX3_may kn kc kr kt kw ff cv x1 x2).2) kw ff cv x1 (3 : Int32) (fX3_sizeOf (ff x1.toNatClampNeg) x2)) x1 (3 : Int32), fX3_set kn kc kr ((fX3_may kn kc kr kt kw ff cv x1 x2).2) kw ff cv x1 (3 : Int32) (fX3_sizeOf (ff x1.toNatClampNeg) x2), (fX3_may kn kc kr kt kw ff cv x1 x2).2)
theorem hd_X3_damp : yX3_damp.cls = RX3 ∧ yX3_damp.cls ≠ "java/lang/invoke/MethodHandle" ∧ yX3_damp.cls ≠ "java/lang/invoke/VarHandle" ∧ (parseMethodDescriptor yX3_damp.desc).map (fun d => d.parameters.length) = some 2 := by decide +kernel
theorem hin_X3_X3_damp : ∀ w ∈ wsX30, w ∈ wsX3_damp := by decide +kernel
set_option maxHeartbeats 1000000 in
set_option maxRecDepth 100000 in
theorem c_X3_damp (l : Launch) {cyJ : ClassId} {cyZ : ClassId} (D : va_G) (tys : List (ClassId × FieldType)) (ad : Nat → Nat) (L : List Nat) (g : Nat → va_E) (om fz cj : Nat) (kn : Int32) (kc : Int32) (kr : Int32) (kt : Int32) (kw : Int64) (ff : Nat → Int32) (cv : Nat → Int64) (x1 : Int32) (x2 : Int64) (hL_om : om ∈ L) (hL_fz : fz ∈ L) (hL_cj : cj ∈ L) (hg_om : g om = .inr (3, [.ref fz, .ref cj, .int kn, .int kc, .int kr, .int kt, .long kw])) (hg_fz : g fz = .inl (cyZ, 8, .inl ff)) (hg_cj : g cj = .inl (cyJ, 56, .inr (.inl cv))) (ne_om_cj : om ≠ cj) (ne_fz_om : fz ≠ om) (ne_fz_cj : fz ≠ cj) (ne_cj_om : cj ≠ om) (htJ : tys[0]? = some (cyJ, .long)) (htZ : tys[1]? = some (cyZ, .boolean)) (hkn : 0 ≤ kn ∧ kn ≤ 8) : Met l yX3_damp wsX3_damp ({ frames := 3, cells := 0, slots := 0, locals := 67 }) (PW D tys ad L g [.ref om, .int x1, .long x2]) (QE D tys ad L (some (.long ((fX3_damp kn kc kr kt kw ff cv x1 x2).1))) (fun g1 => g1 om = .inr (3, [.ref fz, .ref cj, .int kn, .int kc, .int kr, .int ((fX3_damp kn kc kr kt kw ff cv x1 x2).2.2), .long kw]) ∧ g1 cj = .inl (cyJ, 56, .inr (.inl ((fX3_damp kn kc kr kt kw ff cv x1 x2).2.1))) ∧ ∀ q : Nat, q ≠ om → q ≠ cj → g1 q = g q)) 0 0 (fun q => q ∈ L) := by
  refine Met.ofW (cc := cX3_damp) (maxL := 4) (ret := (some .long)) (by decide) rfl ?_
  intro p e s m args below meth c s₁ B hml hv
  obtain ⟨rfl, ⟨hP, hK, hD0, hKC0, hTC⟩, hXN⟩ := hv
  have hP0 := hP
  have hD : va_D (fun q => q ∈ L) (va_pl L g) := we_D (fun _ h => h) hD0
  have hKC : KC ad (fun q => q ∈ L) s s.heap := hKC0.narrow (fun _ h => Or.inl h)
  have hS : va_S (fun q => q ∈ L) s.heap s.heap [] := va_S.rf
  have hx := B.exec
  have hb := B.bytes
  have hr := B.returns
  have hts := atoms_spec (ws := wsX3_damp) B.pre
  have hown : s.vm.findClass RX3 = some m.cls := findClass_of_methodNamed B.named
  have hlocks := B.notSynchronized
  have hrs : ∀ q : Nat, q ≠ om → q ≠ cj → g q = g q := fun q _ _ => rfl
  have hl := lv_entry ([.ref om, .int x1, .long x2]) (n := 4) (Nat.le_of_ble_eq_true rfl)
  rw [lg_entry_eq]
  generalize (lg_sl ([.ref om, .int x1, .long x2]) ++ List.replicate (4 - (lg_sl ([.ref om, .int x1, .long x2])).length) Slot.unset).toArray = ls at hl ⊢
  have hl : lv_has ls 4 [(0, .ref om), (1, .int x1), (2, .long x2)] := hl
  refine lv_aload_n hx hb dX3_damp_0 rfl (lv_at hl 0 rfl) ?_
  refine lv_iload_n hx hb dX3_damp_1 rfl (lv_at hl 1 rfl) ?_
  refine lv_lload_n hx hb dX3_damp_2 rfl (lv_at hl 2 rfl) ?_
  refine mc_V (b := om) (As := [.int x1, .long x2]) (rest := []) ⟨hx, hb, hml, hown, hts⟩ (c_X3_may l D tys ad L g  om fz cj kn kc kr kt kw ff cv x1 x2 hL_om hL_fz hL_cj hg_om hg_fz hg_cj ne_fz_om ne_cj_om htJ htZ hkn) (cwV 2 hts gX3_damp_X3_may rfl rfl rfl hd_X3_may ⟨Nat.le_of_ble_eq_true rfl, Nat.le_of_ble_eq_true rfl⟩) (pg_recv hK hP hL_om hg_om rfl) (fun U hU hvm => WM hP hK hD hKC0 hTC hS hU hvm) hXN hS (fun _ h => h) rfl hl.1 rfl (lv_room (Nat.le_of_ble_eq_true rfl)) dX3_damp_3 ⟨Nat.le_of_ble_eq_true rfl, Nat.le_of_ble_eq_true rfl⟩ (fun g1 H locs hp9 hP hD hS => ?_)
  refine W.eq (g2 := F0 m 6 ls [.int ((fX3_may kn kc kr kt kw ff cv x1 x2).1)]) rfl ?_
  obtain ⟨hn9_om, hr9⟩ := hp9
  have hg_om : g1 om = .inr (3, [.ref fz, .ref cj, .int kn, .int kc, .int kr, .int ((fX3_may kn kc kr kt kw ff cv x1 x2).2), .long kw]) := hn9_om
  have hg_fz : g1 fz = .inl (cyZ, 8, .inl ff) := (hr9 fz ne_fz_om).trans hg_fz
  have hg_cj : g1 cj = .inl (cyJ, 56, .inr (.inl cv)) := (hr9 cj ne_cj_om).trans hg_cj
  have hrs : ∀ q : Nat, q ≠ om → q ≠ cj → g1 q = g q := fun q h_om h_cj => (hr9 q h_om).trans (hrs q h_om h_cj)
  refine lv_if_ne (tgt := 11) hx hb dX3_damp_6 (by decide) (fun c_1 => ?_) (fun c_1 => ?_)
  · refine lv_aload_n hx hb dX3_damp_11 rfl (lv_at hl 0 rfl) ?_
    refine lv_iload_n hx hb dX3_damp_12 rfl (lv_at hl 1 rfl) ?_
    refine lv_iconst (v := 3) hx hb dX3_damp_13 (by decide) ?_
    refine lv_aload_n hx hb dX3_damp_14 rfl (lv_at hl 0 rfl) ?_
    refine pg_get hx hb hts hin_X3_X3_damp hown hK hP hL_om hg_om rfl 0 (by decide) (hts (.fieldLink RX3 7 "NeedleBoardModel" "isFine" "[Z") (by decide +kernel)) rfl dX3_damp_15 ?_
    refine lv_iload_n hx hb dX3_damp_18 rfl (lv_at hl 1 rfl) ?_
    refine pg_zald hx hb hK hP 1 hL_fz hg_fz htZ (may_in hkn c_1) dX3_damp_19 ?_
    refine lv_lload_n hx hb dX3_damp_20 rfl (lv_at hl 2 rfl) ?_
    refine pc_0 (As := [.int (ff x1.toNatClampNeg), .long x2]) (rest := [.int (3 : Int32), .int x1, .ref om]) (r := .long (fX3_sizeOf (ff x1.toNatClampNeg) x2)) ⟨hx, hb, hml, hown, hts⟩ (c_X3_sizeOf l (ff x1.toNatClampNeg) x2) (va_cwS 2 hts gX3_damp_X3_sizeOf rfl rfl rfl hd_X3_sizeOf ⟨Nat.le_of_ble_eq_true rfl, Nat.le_of_ble_eq_true rfl⟩) rfl hl.1 rfl (lv_room (Nat.le_of_ble_eq_true rfl)) dX3_damp_21 ⟨Nat.le_of_ble_eq_true rfl, Nat.le_of_ble_eq_true rfl⟩ ?_
    refine mc_V (b := om) (As := [.int x1, .int (3 : Int32), .long (fX3_sizeOf (ff x1.toNatClampNeg) x2)]) (rest := []) ⟨hx, hb, hml, hown, hts⟩ (c_X3_set l D tys ad L g1  om fz cj kn kc kr ((fX3_may kn kc kr kt kw ff cv x1 x2).2) kw ff cv x1 (3 : Int32) (fX3_sizeOf (ff x1.toNatClampNeg) x2) hL_om hL_fz hL_cj hg_om hg_fz hg_cj ne_om_cj ne_fz_cj htJ htZ (ix_in (may_in hkn c_1) (by unfold vp_in; decide))) (cwV 3 hts gX3_damp_X3_set rfl rfl rfl hd_X3_set ⟨Nat.le_of_ble_eq_true rfl, Nat.le_of_ble_eq_true rfl⟩) (pg_recv hK hP hL_om hg_om rfl) (fun U hU hvm => WM hP hK hD hKC0 hTC hS hU hvm) hXN hS (fun _ h => h) rfl hl.1 rfl (lv_room (Nat.le_of_ble_eq_true rfl)) dX3_damp_24 ⟨Nat.le_of_ble_eq_true rfl, Nat.le_of_ble_eq_true rfl⟩ (fun g2 H locs hp9 hP hD hS => ?_)
    refine W.eq (g2 := F0 m 27 ls []) rfl ?_
    obtain ⟨hn9_cj, hr9⟩ := hp9
    have hg_om : g2 om = .inr (3, [.ref fz, .ref cj, .int kn, .int kc, .int kr, .int ((fX3_may kn kc kr kt kw ff cv x1 x2).2), .long kw]) := (hr9 om ne_om_cj).trans hg_om
    have hg_fz : g2 fz = .inl (cyZ, 8, .inl ff) := (hr9 fz ne_fz_cj).trans hg_fz
    have hg_cj : g2 cj = .inl (cyJ, 56, .inr (.inl (fX3_set kn kc kr ((fX3_may kn kc kr kt kw ff cv x1 x2).2) kw ff cv x1 (3 : Int32) (fX3_sizeOf (ff x1.toNatClampNeg) x2)))) := hn9_cj
    have hrs : ∀ q : Nat, q ≠ om → q ≠ cj → g2 q = g q := fun q h_om h_cj => (hr9 q h_cj).trans (hrs q h_om h_cj)
    refine lv_aload_n hx hb dX3_damp_27 rfl (lv_at hl 0 rfl) ?_
    refine lv_iload_n hx hb dX3_damp_28 rfl (lv_at hl 1 rfl) ?_
    refine lv_iconst (v := 3) hx hb dX3_damp_29 (by decide) ?_
    refine rc_V (b := om) (r := .long (fX3_get kn kc kr ((fX3_may kn kc kr kt kw ff cv x1 x2).2) kw ff (fX3_set kn kc kr ((fX3_may kn kc kr kt kw ff cv x1 x2).2) kw ff cv x1 (3 : Int32) (fX3_sizeOf (ff x1.toNatClampNeg) x2)) x1 (3 : Int32))) (As := [.int x1, .int (3 : Int32)]) (rest := []) ⟨hx, hb, hml, hown, hts⟩ (c_X3_get l D tys ad L g2  om fz cj kn kc kr ((fX3_may kn kc kr kt kw ff cv x1 x2).2) kw ff (fX3_set kn kc kr ((fX3_may kn kc kr kt kw ff cv x1 x2).2) kw ff cv x1 (3 : Int32) (fX3_sizeOf (ff x1.toNatClampNeg) x2)) x1 (3 : Int32) hL_om hL_fz hL_cj hg_om hg_fz hg_cj htJ htZ (ix_in (may_in hkn c_1) (by unfold vp_in; decide))) (cwV 2 hts gX3_damp_X3_get rfl rfl rfl hd_X3_get ⟨Nat.le_of_ble_eq_true rfl, Nat.le_of_ble_eq_true rfl⟩) (pg_recv hK hP hL_om hg_om rfl) (fun U hU hvm => WM hP hK hD hKC0 hTC hS hU hvm) hXN rfl hl.1 rfl (lv_room (Nat.le_of_ble_eq_true rfl)) dX3_damp_30 ⟨Nat.le_of_ble_eq_true rfl, Nat.le_of_ble_eq_true rfl⟩ ?_
    have hF : fX3_damp kn kc kr kt kw ff cv x1 x2 = (fX3_get kn kc kr ((fX3_may kn kc kr kt kw ff cv x1 x2).2) kw ff (fX3_set kn kc kr ((fX3_may kn kc kr kt kw ff cv x1 x2).2) kw ff cv x1 (3 : Int32) (fX3_sizeOf (ff x1.toNatClampNeg) x2)) x1 (3 : Int32), fX3_set kn kc kr ((fX3_may kn kc kr kt kw ff cv x1 x2).2) kw ff cv x1 (3 : Int32) (fX3_sizeOf (ff x1.toNatClampNeg) x2), (fX3_may kn kc kr kt kw ff cv x1 x2).2) := (by unfold fX3_damp; rw [if_neg c_1])
    have hF0 : (fX3_damp kn kc kr kt kw ff cv x1 x2).1 = fX3_get kn kc kr ((fX3_may kn kc kr kt kw ff cv x1 x2).2) kw ff (fX3_set kn kc kr ((fX3_may kn kc kr kt kw ff cv x1 x2).2) kw ff cv x1 (3 : Int32) (fX3_sizeOf (ff x1.toNatClampNeg) x2)) x1 (3 : Int32) := by rw [hF]
    have hF1 : (fX3_damp kn kc kr kt kw ff cv x1 x2).2.1 = fX3_set kn kc kr ((fX3_may kn kc kr kt kw ff cv x1 x2).2) kw ff cv x1 (3 : Int32) (fX3_sizeOf (ff x1.toNatClampNeg) x2) := by rw [hF]
    have hF2 : (fX3_damp kn kc kr kt kw ff cv x1 x2).2.2 = (fX3_may kn kc kr kt kw ff cv x1 x2).2 := by rw [hF]
    exact W.lret hx hb hr (fun t ht hW => ⟨congrArg (fun z => Outcome.returned (some (Value.long z))) hF0.symm, ⟨g2, WM hP hK hD hKC0 hTC hS ht hW.alike, by rw [hF1, hF2]; exact ⟨hg_om, hg_cj, hrs⟩⟩, hS.F ht⟩) (fun q h => hS.2.2 q h) dX3_damp_33
  · refine lv_lconst (v := 0) hx hb dX3_damp_9 (by decide) ?_
    have hF : fX3_damp kn kc kr kt kw ff cv x1 x2 = ((0 : Int64), cv, (fX3_may kn kc kr kt kw ff cv x1 x2).2) := (by unfold fX3_damp; rw [if_pos c_1])
    have hF0 : (fX3_damp kn kc kr kt kw ff cv x1 x2).1 = (0 : Int64) := by rw [hF]
    have hF1 : (fX3_damp kn kc kr kt kw ff cv x1 x2).2.1 = cv := by rw [hF]
    have hF2 : (fX3_damp kn kc kr kt kw ff cv x1 x2).2.2 = (fX3_may kn kc kr kt kw ff cv x1 x2).2 := by rw [hF]
    exact W.lret hx hb hr (fun t ht hW => ⟨congrArg (fun z => Outcome.returned (some (Value.long z))) hF0.symm, ⟨g1, WM hP hK hD hKC0 hTC hS ht hW.alike, by rw [hF1, hF2]; exact ⟨hg_om, hg_cj, hrs⟩⟩, hS.F ht⟩) (fun q h => hS.2.2 q h) dX3_damp_10
def fX3_face (kn : Int32) (kc : Int32) (kr : Int32) (kt : Int32) (kw : Int64) (ff : Nat → Int32) (cv : Nat → Int64) (x1 : Int32) (x2 : Int32) : Int64 × (Nat → Int64) × Int32 × Int32 :=
  if ((fX3_isThere kn kc kr kt kw ff cv x1).1) = 0 then
    ((0 : Int64), cv, kc, (fX3_isThere kn kc kr kt kw ff cv x1).2)
  else
    if ((fX3_isThere kn kc kr ((fX3_isThere kn kc kr kt kw ff cv x1).2) kw ff cv x2).1) = 0 then
      ((0 : Int64), cv, kc, (fX3_isThere kn kc kr ((fX3_isThere kn kc kr kt kw ff cv x1).2) kw ff cv x2).2)
    else
      if (0 : Int64) ≤ (fX3_get kn kc kr ((fX3_isThere kn kc kr ((fX3_isThere kn kc kr kt kw ff cv x1).2) kw ff cv x2).2) kw ff cv x2 (2 : Int32)) then
        ((fX3_becomes kn kc kr ((fX3_isThere kn kc kr ((fX3_isThere kn kc kr kt kw ff cv x1).2) kw ff cv x2).2) kw ff cv x1 (fX3_sided (ff x1.toNatClampNeg) (fX3_sizeOf (ff x1.toNatClampNeg) (fX3_get kn kc kr ((fX3_isThere kn kc kr ((fX3_isThere kn kc kr kt kw ff cv x1).2) kw ff cv x2).2) kw ff cv x1 (2 : Int32))) (0 : Int32))).1, (fX3_becomes kn kc kr ((fX3_isThere kn kc kr ((fX3_isThere kn kc kr kt kw ff cv x1).2) kw ff cv x2).2) kw ff cv x1 (fX3_sided (ff x1.toNatClampNeg) (fX3_sizeOf (ff x1.toNatClampNeg) (fX3_get kn kc kr ((fX3_isThere kn kc kr ((fX3_isThere kn kc kr kt kw ff cv x1).2) kw ff cv x2).2) kw ff cv x1 (2 : Int32))) (0 : Int32))).2.1, (fX3_becomes kn kc kr ((fX3_isThere kn kc kr ((fX3_isThere kn kc kr kt kw ff cv x1).2) kw ff cv x2).2) kw ff cv x1 (fX3_sided (ff x1.toNatClampNeg) (fX3_sizeOf (ff x1.toNatClampNeg) (fX3_get kn kc kr ((fX3_isThere kn kc kr ((fX3_isThere kn kc kr kt kw ff cv x1).2) kw ff cv x2).2) kw ff cv x1 (2 : Int32))) (0 : Int32))).2.2, (fX3_isThere kn kc kr ((fX3_isThere kn kc kr kt kw ff cv x1).2) kw ff cv x2).2)
      else
        ((fX3_becomes kn kc kr ((fX3_isThere kn kc kr ((fX3_isThere kn kc kr kt kw ff cv x1).2) kw ff cv x2).2) kw ff cv x1 (fX3_sided (ff x1.toNatClampNeg) (fX3_sizeOf (ff x1.toNatClampNeg) (fX3_get kn kc kr ((fX3_isThere kn kc kr ((fX3_isThere kn kc kr kt kw ff cv x1).2) kw ff cv x2).2) kw ff cv x1 (2 : Int32))) (1 : Int32))).1, (fX3_becomes kn kc kr ((fX3_isThere kn kc kr ((fX3_isThere kn kc kr kt kw ff cv x1).2) kw ff cv x2).2) kw ff cv x1 (fX3_sided (ff x1.toNatClampNeg) (fX3_sizeOf (ff x1.toNatClampNeg) (fX3_get kn kc kr ((fX3_isThere kn kc kr ((fX3_isThere kn kc kr kt kw ff cv x1).2) kw ff cv x2).2) kw ff cv x1 (2 : Int32))) (1 : Int32))).2.1, (fX3_becomes kn kc kr ((fX3_isThere kn kc kr ((fX3_isThere kn kc kr kt kw ff cv x1).2) kw ff cv x2).2) kw ff cv x1 (fX3_sided (ff x1.toNatClampNeg) (fX3_sizeOf (ff x1.toNatClampNeg) (fX3_get kn kc kr ((fX3_isThere kn kc kr ((fX3_isThere kn kc kr kt kw ff cv x1).2) kw ff cv x2).2) kw ff cv x1 (2 : Int32))) (1 : Int32))).2.2, (fX3_isThere kn kc kr ((fX3_isThere kn kc kr kt kw ff cv x1).2) kw ff cv x2).2)
theorem hd_X3_face : yX3_face.cls = RX3 ∧ yX3_face.cls ≠ "java/lang/invoke/MethodHandle" ∧ yX3_face.cls ≠ "java/lang/invoke/VarHandle" ∧ (parseMethodDescriptor yX3_face.desc).map (fun d => d.parameters.length) = some 2 := by decide +kernel
theorem hin_X3_X3_face : ∀ w ∈ wsX30, w ∈ wsX3_face := by decide +kernel
set_option maxHeartbeats 1000000 in
set_option maxRecDepth 100000 in
theorem c_X3_face (l : Launch) {cyJ : ClassId} {cyZ : ClassId} (D : va_G) (tys : List (ClassId × FieldType)) (ad : Nat → Nat) (L : List Nat) (g : Nat → va_E) (om fz cj : Nat) (kn : Int32) (kc : Int32) (kr : Int32) (kt : Int32) (kw : Int64) (ff : Nat → Int32) (cv : Nat → Int64) (x1 : Int32) (x2 : Int32) (hL_om : om ∈ L) (hL_fz : fz ∈ L) (hL_cj : cj ∈ L) (hg_om : g om = .inr (3, [.ref fz, .ref cj, .int kn, .int kc, .int kr, .int kt, .long kw])) (hg_fz : g fz = .inl (cyZ, 8, .inl ff)) (hg_cj : g cj = .inl (cyJ, 56, .inr (.inl cv))) (ne_om_cj : om ≠ cj) (ne_fz_om : fz ≠ om) (ne_fz_cj : fz ≠ cj) (ne_cj_om : cj ≠ om) (htJ : tys[0]? = some (cyJ, .long)) (htZ : tys[1]? = some (cyZ, .boolean)) (hkn : 0 ≤ kn ∧ kn ≤ 8) : Met l yX3_face wsX3_face ({ frames := 4, cells := 0, slots := 0, locals := 94 }) (PW D tys ad L g [.ref om, .int x1, .int x2]) (QE D tys ad L (some (.long ((fX3_face kn kc kr kt kw ff cv x1 x2).1))) (fun g1 => g1 om = .inr (3, [.ref fz, .ref cj, .int kn, .int ((fX3_face kn kc kr kt kw ff cv x1 x2).2.2.1), .int kr, .int ((fX3_face kn kc kr kt kw ff cv x1 x2).2.2.2), .long kw]) ∧ g1 cj = .inl (cyJ, 56, .inr (.inl ((fX3_face kn kc kr kt kw ff cv x1 x2).2.1))) ∧ ∀ q : Nat, q ≠ om → q ≠ cj → g1 q = g q)) 0 0 (fun q => q ∈ L) := by
  refine Met.ofW (cc := cX3_face) (maxL := 4) (ret := (some .long)) (by decide) rfl ?_
  intro p e s m args below meth c s₁ B hml hv
  obtain ⟨rfl, ⟨hP, hK, hD0, hKC0, hTC⟩, hXN⟩ := hv
  have hP0 := hP
  have hD : va_D (fun q => q ∈ L) (va_pl L g) := we_D (fun _ h => h) hD0
  have hKC : KC ad (fun q => q ∈ L) s s.heap := hKC0.narrow (fun _ h => Or.inl h)
  have hS : va_S (fun q => q ∈ L) s.heap s.heap [] := va_S.rf
  have hx := B.exec
  have hb := B.bytes
  have hr := B.returns
  have hts := atoms_spec (ws := wsX3_face) B.pre
  have hown : s.vm.findClass RX3 = some m.cls := findClass_of_methodNamed B.named
  have hlocks := B.notSynchronized
  have hrs : ∀ q : Nat, q ≠ om → q ≠ cj → g q = g q := fun q _ _ => rfl
  have hl := lv_entry ([.ref om, .int x1, .int x2]) (n := 4) (Nat.le_of_ble_eq_true rfl)
  rw [lg_entry_eq]
  generalize (lg_sl ([.ref om, .int x1, .int x2]) ++ List.replicate (4 - (lg_sl ([.ref om, .int x1, .int x2])).length) Slot.unset).toArray = ls at hl ⊢
  have hl : lv_has ls 4 [(0, .ref om), (1, .int x1), (2, .int x2)] := hl
  refine lv_aload_n hx hb dX3_face_0 rfl (lv_at hl 0 rfl) ?_
  refine lv_iload_n hx hb dX3_face_1 rfl (lv_at hl 1 rfl) ?_
  refine mc_V (b := om) (As := [.int x1]) (rest := []) ⟨hx, hb, hml, hown, hts⟩ (c_X3_isThere l D tys ad L g  om fz cj kn kc kr kt kw ff cv x1 hL_om hL_fz hL_cj hg_om hg_fz hg_cj ne_fz_om ne_cj_om htJ htZ) (cwV 1 hts gX3_face_X3_isThere rfl rfl rfl hd_X3_isThere ⟨Nat.le_of_ble_eq_true rfl, Nat.le_of_ble_eq_true rfl⟩) (pg_recv hK hP hL_om hg_om rfl) (fun U hU hvm => WM hP hK hD hKC0 hTC hS hU hvm) hXN hS (fun _ h => h) rfl hl.1 rfl (lv_room (Nat.le_of_ble_eq_true rfl)) dX3_face_2 ⟨Nat.le_of_ble_eq_true rfl, Nat.le_of_ble_eq_true rfl⟩ (fun g1 H locs hp9 hP hD hS => ?_)
  refine W.eq (g2 := F0 m 5 ls [.int ((fX3_isThere kn kc kr kt kw ff cv x1).1)]) rfl ?_
  obtain ⟨hn9_om, hr9⟩ := hp9
  have hg_om : g1 om = .inr (3, [.ref fz, .ref cj, .int kn, .int kc, .int kr, .int ((fX3_isThere kn kc kr kt kw ff cv x1).2), .long kw]) := hn9_om
  have hg_fz : g1 fz = .inl (cyZ, 8, .inl ff) := (hr9 fz ne_fz_om).trans hg_fz
  have hg_cj : g1 cj = .inl (cyJ, 56, .inr (.inl cv)) := (hr9 cj ne_cj_om).trans hg_cj
  have hrs : ∀ q : Nat, q ≠ om → q ≠ cj → g1 q = g q := fun q h_om h_cj => (hr9 q h_om).trans (hrs q h_om h_cj)
  refine lv_if_eq (tgt := 16) hx hb dX3_face_5 (by decide) (fun c_1 => ?_) (fun c_1 => ?_)
  · refine lv_lconst (v := 0) hx hb dX3_face_16 (by decide) ?_
    have hF : fX3_face kn kc kr kt kw ff cv x1 x2 = ((0 : Int64), cv, kc, (fX3_isThere kn kc kr kt kw ff cv x1).2) := (by unfold fX3_face; rw [if_pos c_1])
    have hF0 : (fX3_face kn kc kr kt kw ff cv x1 x2).1 = (0 : Int64) := by rw [hF]
    have hF1 : (fX3_face kn kc kr kt kw ff cv x1 x2).2.1 = cv := by rw [hF]
    have hF2 : (fX3_face kn kc kr kt kw ff cv x1 x2).2.2.1 = kc := by rw [hF]
    have hF3 : (fX3_face kn kc kr kt kw ff cv x1 x2).2.2.2 = (fX3_isThere kn kc kr kt kw ff cv x1).2 := by rw [hF]
    exact W.lret hx hb hr (fun t ht hW => ⟨congrArg (fun z => Outcome.returned (some (Value.long z))) hF0.symm, ⟨g1, WM hP hK hD hKC0 hTC hS ht hW.alike, by rw [hF1, hF2, hF3]; exact ⟨hg_om, hg_cj, hrs⟩⟩, hS.F ht⟩) (fun q h => hS.2.2 q h) dX3_face_17
  · refine lv_aload_n hx hb dX3_face_8 rfl (lv_at hl 0 rfl) ?_
    refine lv_iload_n hx hb dX3_face_9 rfl (lv_at hl 2 rfl) ?_
    refine mc_V (b := om) (As := [.int x2]) (rest := []) ⟨hx, hb, hml, hown, hts⟩ (c_X3_isThere l D tys ad L g1  om fz cj kn kc kr ((fX3_isThere kn kc kr kt kw ff cv x1).2) kw ff cv x2 hL_om hL_fz hL_cj hg_om hg_fz hg_cj ne_fz_om ne_cj_om htJ htZ) (cwV 1 hts gX3_face_X3_isThere rfl rfl rfl hd_X3_isThere ⟨Nat.le_of_ble_eq_true rfl, Nat.le_of_ble_eq_true rfl⟩) (pg_recv hK hP hL_om hg_om rfl) (fun U hU hvm => WM hP hK hD hKC0 hTC hS hU hvm) hXN hS (fun _ h => h) rfl hl.1 rfl (lv_room (Nat.le_of_ble_eq_true rfl)) dX3_face_10 ⟨Nat.le_of_ble_eq_true rfl, Nat.le_of_ble_eq_true rfl⟩ (fun g2 H locs hp9 hP hD hS => ?_)
    refine W.eq (g2 := F0 m 13 ls [.int ((fX3_isThere kn kc kr ((fX3_isThere kn kc kr kt kw ff cv x1).2) kw ff cv x2).1)]) rfl ?_
    obtain ⟨hn9_om, hr9⟩ := hp9
    have hg_om : g2 om = .inr (3, [.ref fz, .ref cj, .int kn, .int kc, .int kr, .int ((fX3_isThere kn kc kr ((fX3_isThere kn kc kr kt kw ff cv x1).2) kw ff cv x2).2), .long kw]) := hn9_om
    have hg_fz : g2 fz = .inl (cyZ, 8, .inl ff) := (hr9 fz ne_fz_om).trans hg_fz
    have hg_cj : g2 cj = .inl (cyJ, 56, .inr (.inl cv)) := (hr9 cj ne_cj_om).trans hg_cj
    have hrs : ∀ q : Nat, q ≠ om → q ≠ cj → g2 q = g q := fun q h_om h_cj => (hr9 q h_om).trans (hrs q h_om h_cj)
    refine lv_if_ne (tgt := 18) hx hb dX3_face_13 (by decide) (fun c_2 => ?_) (fun c_2 => ?_)
    · refine lv_aload_n hx hb dX3_face_18 rfl (lv_at hl 0 rfl) ?_
      refine pg_get hx hb hts hin_X3_X3_face hown hK hP hL_om hg_om rfl 0 (by decide) (hts (.fieldLink RX3 7 "NeedleBoardModel" "isFine" "[Z") (by decide +kernel)) rfl dX3_face_19 ?_
      refine lv_iload_n hx hb dX3_face_22 rfl (lv_at hl 1 rfl) ?_
      refine pg_zald hx hb hK hP 1 hL_fz hg_fz htZ (it_in hkn c_1) dX3_face_23 ?_
      refine lv_istore_n (lv' := [(3, .int (ff x1.toNatClampNeg)), (0, .ref om), (1, .int x1), (2, .int x2)]) hx hb dX3_face_24 rfl hl (by decide) rfl (fun ls hl => ?_)
      refine lv_aload_n hx hb dX3_face_25 rfl (lv_at hl 1 rfl) ?_
      refine lv_iload_n hx hb dX3_face_26 rfl (lv_at hl 2 rfl) ?_
      refine lv_iload_n hx hb dX3_face_27 rfl (lv_at hl 0 rfl) ?_
      refine lv_iload_n hx hb dX3_face_28 rfl (lv_at hl 0 rfl) ?_
      refine lv_aload_n hx hb dX3_face_29 rfl (lv_at hl 1 rfl) ?_
      refine lv_iload_n hx hb dX3_face_30 rfl (lv_at hl 2 rfl) ?_
      refine lv_iconst (v := 2) hx hb dX3_face_31 (by decide) ?_
      refine rc_V (b := om) (r := .long (fX3_get kn kc kr ((fX3_isThere kn kc kr ((fX3_isThere kn kc kr kt kw ff cv x1).2) kw ff cv x2).2) kw ff cv x1 (2 : Int32))) (As := [.int x1, .int (2 : Int32)]) (rest := [.int (ff x1.toNatClampNeg), .int (ff x1.toNatClampNeg), .int x1, .ref om]) ⟨hx, hb, hml, hown, hts⟩ (c_X3_get l D tys ad L g2  om fz cj kn kc kr ((fX3_isThere kn kc kr ((fX3_isThere kn kc kr kt kw ff cv x1).2) kw ff cv x2).2) kw ff cv x1 (2 : Int32) hL_om hL_fz hL_cj hg_om hg_fz hg_cj htJ htZ (ix_in (it_in hkn c_1) (by unfold vp_in; decide))) (cwV 2 hts gX3_face_X3_get rfl rfl rfl hd_X3_get ⟨Nat.le_of_ble_eq_true rfl, Nat.le_of_ble_eq_true rfl⟩) (pg_recv hK hP hL_om hg_om rfl) (fun U hU hvm => WM hP hK hD hKC0 hTC hS hU hvm) hXN rfl hl.1 rfl (lv_room (Nat.le_of_ble_eq_true rfl)) dX3_face_32 ⟨Nat.le_of_ble_eq_true rfl, Nat.le_of_ble_eq_true rfl⟩ ?_
      refine pc_0 (As := [.int (ff x1.toNatClampNeg), .long (fX3_get kn kc kr ((fX3_isThere kn kc kr ((fX3_isThere kn kc kr kt kw ff cv x1).2) kw ff cv x2).2) kw ff cv x1 (2 : Int32))]) (rest := [.int (ff x1.toNatClampNeg), .int x1, .ref om]) (r := .long (fX3_sizeOf (ff x1.toNatClampNeg) (fX3_get kn kc kr ((fX3_isThere kn kc kr ((fX3_isThere kn kc kr kt kw ff cv x1).2) kw ff cv x2).2) kw ff cv x1 (2 : Int32)))) ⟨hx, hb, hml, hown, hts⟩ (c_X3_sizeOf l (ff x1.toNatClampNeg) (fX3_get kn kc kr ((fX3_isThere kn kc kr ((fX3_isThere kn kc kr kt kw ff cv x1).2) kw ff cv x2).2) kw ff cv x1 (2 : Int32))) (va_cwS 2 hts gX3_face_X3_sizeOf rfl rfl rfl hd_X3_sizeOf ⟨Nat.le_of_ble_eq_true rfl, Nat.le_of_ble_eq_true rfl⟩) rfl hl.1 rfl (lv_room (Nat.le_of_ble_eq_true rfl)) dX3_face_35 ⟨Nat.le_of_ble_eq_true rfl, Nat.le_of_ble_eq_true rfl⟩ ?_
      refine lv_aload_n hx hb dX3_face_38 rfl (lv_at hl 1 rfl) ?_
      refine lv_iload_n hx hb dX3_face_39 rfl (lv_at hl 3 rfl) ?_
      refine lv_iconst (v := 2) hx hb dX3_face_40 (by decide) ?_
      refine rc_V (b := om) (r := .long (fX3_get kn kc kr ((fX3_isThere kn kc kr ((fX3_isThere kn kc kr kt kw ff cv x1).2) kw ff cv x2).2) kw ff cv x2 (2 : Int32))) (As := [.int x2, .int (2 : Int32)]) (rest := [.long (fX3_sizeOf (ff x1.toNatClampNeg) (fX3_get kn kc kr ((fX3_isThere kn kc kr ((fX3_isThere kn kc kr kt kw ff cv x1).2) kw ff cv x2).2) kw ff cv x1 (2 : Int32))), .int (ff x1.toNatClampNeg), .int x1, .ref om]) ⟨hx, hb, hml, hown, hts⟩ (c_X3_get l D tys ad L g2  om fz cj kn kc kr ((fX3_isThere kn kc kr ((fX3_isThere kn kc kr kt kw ff cv x1).2) kw ff cv x2).2) kw ff cv x2 (2 : Int32) hL_om hL_fz hL_cj hg_om hg_fz hg_cj htJ htZ (ix_in (it_in hkn c_2) (by unfold vp_in; decide))) (cwV 2 hts gX3_face_X3_get rfl rfl rfl hd_X3_get ⟨Nat.le_of_ble_eq_true rfl, Nat.le_of_ble_eq_true rfl⟩) (pg_recv hK hP hL_om hg_om rfl) (fun U hU hvm => WM hP hK hD hKC0 hTC hS hU hvm) hXN rfl hl.1 rfl (lv_room (Nat.le_of_ble_eq_true rfl)) dX3_face_41 ⟨Nat.le_of_ble_eq_true rfl, Nat.le_of_ble_eq_true rfl⟩ ?_
      refine lv_lconst (v := 0) hx hb dX3_face_44 (by decide) ?_
      refine pl_ge (tgt := 53) hx hb dX3_face_45 dX3_face_46 (by decide) (fun c_3 => ?_) (fun c_3 => ?_)
      · refine lv_iconst (v := 0) hx hb dX3_face_53 (by decide) ?_
        refine pc_0 (As := [.int (ff x1.toNatClampNeg), .long (fX3_sizeOf (ff x1.toNatClampNeg) (fX3_get kn kc kr ((fX3_isThere kn kc kr ((fX3_isThere kn kc kr kt kw ff cv x1).2) kw ff cv x2).2) kw ff cv x1 (2 : Int32))), .int (0 : Int32)]) (rest := [.int x1, .ref om]) (r := .long (fX3_sided (ff x1.toNatClampNeg) (fX3_sizeOf (ff x1.toNatClampNeg) (fX3_get kn kc kr ((fX3_isThere kn kc kr ((fX3_isThere kn kc kr kt kw ff cv x1).2) kw ff cv x2).2) kw ff cv x1 (2 : Int32))) (0 : Int32))) ⟨hx, hb, hml, hown, hts⟩ (c_X3_sided l (ff x1.toNatClampNeg) (fX3_sizeOf (ff x1.toNatClampNeg) (fX3_get kn kc kr ((fX3_isThere kn kc kr ((fX3_isThere kn kc kr kt kw ff cv x1).2) kw ff cv x2).2) kw ff cv x1 (2 : Int32))) (0 : Int32)) (va_cwS 3 hts gX3_face_X3_sided rfl rfl rfl hd_X3_sided ⟨Nat.le_of_ble_eq_true rfl, Nat.le_of_ble_eq_true rfl⟩) rfl hl.1 rfl (lv_room (Nat.le_of_ble_eq_true rfl)) dX3_face_54 ⟨Nat.le_of_ble_eq_true rfl, Nat.le_of_ble_eq_true rfl⟩ ?_
        refine mc_V (b := om) (As := [.int x1, .long (fX3_sided (ff x1.toNatClampNeg) (fX3_sizeOf (ff x1.toNatClampNeg) (fX3_get kn kc kr ((fX3_isThere kn kc kr ((fX3_isThere kn kc kr kt kw ff cv x1).2) kw ff cv x2).2) kw ff cv x1 (2 : Int32))) (0 : Int32))]) (rest := []) ⟨hx, hb, hml, hown, hts⟩ (c_X3_becomes l D tys ad L g2  om fz cj kn kc kr ((fX3_isThere kn kc kr ((fX3_isThere kn kc kr kt kw ff cv x1).2) kw ff cv x2).2) kw ff cv x1 (fX3_sided (ff x1.toNatClampNeg) (fX3_sizeOf (ff x1.toNatClampNeg) (fX3_get kn kc kr ((fX3_isThere kn kc kr ((fX3_isThere kn kc kr kt kw ff cv x1).2) kw ff cv x2).2) kw ff cv x1 (2 : Int32))) (0 : Int32)) hL_om hL_fz hL_cj hg_om hg_fz hg_cj ne_om_cj ne_fz_om ne_fz_cj ne_cj_om htJ htZ (it_in hkn c_1)) (cwV 2 hts gX3_face_X3_becomes rfl rfl rfl hd_X3_becomes ⟨Nat.le_of_ble_eq_true rfl, Nat.le_of_ble_eq_true rfl⟩) (pg_recv hK hP hL_om hg_om rfl) (fun U hU hvm => WM hP hK hD hKC0 hTC hS hU hvm) hXN hS (fun _ h => h) rfl hl.1 rfl (lv_room (Nat.le_of_ble_eq_true rfl)) dX3_face_57 ⟨Nat.le_of_ble_eq_true rfl, Nat.le_of_ble_eq_true rfl⟩ (fun g3 H locs hp9 hP hD hS => ?_)
        refine W.eq (g2 := F0 m 60 ls [.long ((fX3_becomes kn kc kr ((fX3_isThere kn kc kr ((fX3_isThere kn kc kr kt kw ff cv x1).2) kw ff cv x2).2) kw ff cv x1 (fX3_sided (ff x1.toNatClampNeg) (fX3_sizeOf (ff x1.toNatClampNeg) (fX3_get kn kc kr ((fX3_isThere kn kc kr ((fX3_isThere kn kc kr kt kw ff cv x1).2) kw ff cv x2).2) kw ff cv x1 (2 : Int32))) (0 : Int32))).1)]) rfl ?_
        obtain ⟨hn9_om, hn9_cj, hr9⟩ := hp9
        have hg_om : g3 om = .inr (3, [.ref fz, .ref cj, .int kn, .int ((fX3_becomes kn kc kr ((fX3_isThere kn kc kr ((fX3_isThere kn kc kr kt kw ff cv x1).2) kw ff cv x2).2) kw ff cv x1 (fX3_sided (ff x1.toNatClampNeg) (fX3_sizeOf (ff x1.toNatClampNeg) (fX3_get kn kc kr ((fX3_isThere kn kc kr ((fX3_isThere kn kc kr kt kw ff cv x1).2) kw ff cv x2).2) kw ff cv x1 (2 : Int32))) (0 : Int32))).2.2), .int kr, .int ((fX3_isThere kn kc kr ((fX3_isThere kn kc kr kt kw ff cv x1).2) kw ff cv x2).2), .long kw]) := hn9_om
        have hg_fz : g3 fz = .inl (cyZ, 8, .inl ff) := (hr9 fz ne_fz_om ne_fz_cj).trans hg_fz
        have hg_cj : g3 cj = .inl (cyJ, 56, .inr (.inl ((fX3_becomes kn kc kr ((fX3_isThere kn kc kr ((fX3_isThere kn kc kr kt kw ff cv x1).2) kw ff cv x2).2) kw ff cv x1 (fX3_sided (ff x1.toNatClampNeg) (fX3_sizeOf (ff x1.toNatClampNeg) (fX3_get kn kc kr ((fX3_isThere kn kc kr ((fX3_isThere kn kc kr kt kw ff cv x1).2) kw ff cv x2).2) kw ff cv x1 (2 : Int32))) (0 : Int32))).2.1))) := hn9_cj
        have hrs : ∀ q : Nat, q ≠ om → q ≠ cj → g3 q = g q := fun q h_om h_cj => (hr9 q h_om h_cj).trans (hrs q h_om h_cj)
        have hF : fX3_face kn kc kr kt kw ff cv x1 x2 = ((fX3_becomes kn kc kr ((fX3_isThere kn kc kr ((fX3_isThere kn kc kr kt kw ff cv x1).2) kw ff cv x2).2) kw ff cv x1 (fX3_sided (ff x1.toNatClampNeg) (fX3_sizeOf (ff x1.toNatClampNeg) (fX3_get kn kc kr ((fX3_isThere kn kc kr ((fX3_isThere kn kc kr kt kw ff cv x1).2) kw ff cv x2).2) kw ff cv x1 (2 : Int32))) (0 : Int32))).1, (fX3_becomes kn kc kr ((fX3_isThere kn kc kr ((fX3_isThere kn kc kr kt kw ff cv x1).2) kw ff cv x2).2) kw ff cv x1 (fX3_sided (ff x1.toNatClampNeg) (fX3_sizeOf (ff x1.toNatClampNeg) (fX3_get kn kc kr ((fX3_isThere kn kc kr ((fX3_isThere kn kc kr kt kw ff cv x1).2) kw ff cv x2).2) kw ff cv x1 (2 : Int32))) (0 : Int32))).2.1, (fX3_becomes kn kc kr ((fX3_isThere kn kc kr ((fX3_isThere kn kc kr kt kw ff cv x1).2) kw ff cv x2).2) kw ff cv x1 (fX3_sided (ff x1.toNatClampNeg) (fX3_sizeOf (ff x1.toNatClampNeg) (fX3_get kn kc kr ((fX3_isThere kn kc kr ((fX3_isThere kn kc kr kt kw ff cv x1).2) kw ff cv x2).2) kw ff cv x1 (2 : Int32))) (0 : Int32))).2.2, (fX3_isThere kn kc kr ((fX3_isThere kn kc kr kt kw ff cv x1).2) kw ff cv x2).2) := (by unfold fX3_face; rw [if_neg c_1, if_neg c_2, if_pos c_3])
        have hF0 : (fX3_face kn kc kr kt kw ff cv x1 x2).1 = (fX3_becomes kn kc kr ((fX3_isThere kn kc kr ((fX3_isThere kn kc kr kt kw ff cv x1).2) kw ff cv x2).2) kw ff cv x1 (fX3_sided (ff x1.toNatClampNeg) (fX3_sizeOf (ff x1.toNatClampNeg) (fX3_get kn kc kr ((fX3_isThere kn kc kr ((fX3_isThere kn kc kr kt kw ff cv x1).2) kw ff cv x2).2) kw ff cv x1 (2 : Int32))) (0 : Int32))).1 := by rw [hF]
        have hF1 : (fX3_face kn kc kr kt kw ff cv x1 x2).2.1 = (fX3_becomes kn kc kr ((fX3_isThere kn kc kr ((fX3_isThere kn kc kr kt kw ff cv x1).2) kw ff cv x2).2) kw ff cv x1 (fX3_sided (ff x1.toNatClampNeg) (fX3_sizeOf (ff x1.toNatClampNeg) (fX3_get kn kc kr ((fX3_isThere kn kc kr ((fX3_isThere kn kc kr kt kw ff cv x1).2) kw ff cv x2).2) kw ff cv x1 (2 : Int32))) (0 : Int32))).2.1 := by rw [hF]
        have hF2 : (fX3_face kn kc kr kt kw ff cv x1 x2).2.2.1 = (fX3_becomes kn kc kr ((fX3_isThere kn kc kr ((fX3_isThere kn kc kr kt kw ff cv x1).2) kw ff cv x2).2) kw ff cv x1 (fX3_sided (ff x1.toNatClampNeg) (fX3_sizeOf (ff x1.toNatClampNeg) (fX3_get kn kc kr ((fX3_isThere kn kc kr ((fX3_isThere kn kc kr kt kw ff cv x1).2) kw ff cv x2).2) kw ff cv x1 (2 : Int32))) (0 : Int32))).2.2 := by rw [hF]
        have hF3 : (fX3_face kn kc kr kt kw ff cv x1 x2).2.2.2 = (fX3_isThere kn kc kr ((fX3_isThere kn kc kr kt kw ff cv x1).2) kw ff cv x2).2 := by rw [hF]
        exact W.lret hx hb hr (fun t ht hW => ⟨congrArg (fun z => Outcome.returned (some (Value.long z))) hF0.symm, ⟨g3, WM hP hK hD hKC0 hTC hS ht hW.alike, by rw [hF1, hF2, hF3]; exact ⟨hg_om, hg_cj, hrs⟩⟩, hS.F ht⟩) (fun q h => hS.2.2 q h) dX3_face_60
      · refine lv_iconst (v := 1) hx hb dX3_face_49 (by decide) ?_
        refine lv_goto (tgt := 54) hx hb dX3_face_50 (by decide) ?_
        refine pc_0 (As := [.int (ff x1.toNatClampNeg), .long (fX3_sizeOf (ff x1.toNatClampNeg) (fX3_get kn kc kr ((fX3_isThere kn kc kr ((fX3_isThere kn kc kr kt kw ff cv x1).2) kw ff cv x2).2) kw ff cv x1 (2 : Int32))), .int (1 : Int32)]) (rest := [.int x1, .ref om]) (r := .long (fX3_sided (ff x1.toNatClampNeg) (fX3_sizeOf (ff x1.toNatClampNeg) (fX3_get kn kc kr ((fX3_isThere kn kc kr ((fX3_isThere kn kc kr kt kw ff cv x1).2) kw ff cv x2).2) kw ff cv x1 (2 : Int32))) (1 : Int32))) ⟨hx, hb, hml, hown, hts⟩ (c_X3_sided l (ff x1.toNatClampNeg) (fX3_sizeOf (ff x1.toNatClampNeg) (fX3_get kn kc kr ((fX3_isThere kn kc kr ((fX3_isThere kn kc kr kt kw ff cv x1).2) kw ff cv x2).2) kw ff cv x1 (2 : Int32))) (1 : Int32)) (va_cwS 3 hts gX3_face_X3_sided rfl rfl rfl hd_X3_sided ⟨Nat.le_of_ble_eq_true rfl, Nat.le_of_ble_eq_true rfl⟩) rfl hl.1 rfl (lv_room (Nat.le_of_ble_eq_true rfl)) dX3_face_54 ⟨Nat.le_of_ble_eq_true rfl, Nat.le_of_ble_eq_true rfl⟩ ?_
        refine mc_V (b := om) (As := [.int x1, .long (fX3_sided (ff x1.toNatClampNeg) (fX3_sizeOf (ff x1.toNatClampNeg) (fX3_get kn kc kr ((fX3_isThere kn kc kr ((fX3_isThere kn kc kr kt kw ff cv x1).2) kw ff cv x2).2) kw ff cv x1 (2 : Int32))) (1 : Int32))]) (rest := []) ⟨hx, hb, hml, hown, hts⟩ (c_X3_becomes l D tys ad L g2  om fz cj kn kc kr ((fX3_isThere kn kc kr ((fX3_isThere kn kc kr kt kw ff cv x1).2) kw ff cv x2).2) kw ff cv x1 (fX3_sided (ff x1.toNatClampNeg) (fX3_sizeOf (ff x1.toNatClampNeg) (fX3_get kn kc kr ((fX3_isThere kn kc kr ((fX3_isThere kn kc kr kt kw ff cv x1).2) kw ff cv x2).2) kw ff cv x1 (2 : Int32))) (1 : Int32)) hL_om hL_fz hL_cj hg_om hg_fz hg_cj ne_om_cj ne_fz_om ne_fz_cj ne_cj_om htJ htZ (it_in hkn c_1)) (cwV 2 hts gX3_face_X3_becomes rfl rfl rfl hd_X3_becomes ⟨Nat.le_of_ble_eq_true rfl, Nat.le_of_ble_eq_true rfl⟩) (pg_recv hK hP hL_om hg_om rfl) (fun U hU hvm => WM hP hK hD hKC0 hTC hS hU hvm) hXN hS (fun _ h => h) rfl hl.1 rfl (lv_room (Nat.le_of_ble_eq_true rfl)) dX3_face_57 ⟨Nat.le_of_ble_eq_true rfl, Nat.le_of_ble_eq_true rfl⟩ (fun g3 H locs hp9 hP hD hS => ?_)
        refine W.eq (g2 := F0 m 60 ls [.long ((fX3_becomes kn kc kr ((fX3_isThere kn kc kr ((fX3_isThere kn kc kr kt kw ff cv x1).2) kw ff cv x2).2) kw ff cv x1 (fX3_sided (ff x1.toNatClampNeg) (fX3_sizeOf (ff x1.toNatClampNeg) (fX3_get kn kc kr ((fX3_isThere kn kc kr ((fX3_isThere kn kc kr kt kw ff cv x1).2) kw ff cv x2).2) kw ff cv x1 (2 : Int32))) (1 : Int32))).1)]) rfl ?_
        obtain ⟨hn9_om, hn9_cj, hr9⟩ := hp9
        have hg_om : g3 om = .inr (3, [.ref fz, .ref cj, .int kn, .int ((fX3_becomes kn kc kr ((fX3_isThere kn kc kr ((fX3_isThere kn kc kr kt kw ff cv x1).2) kw ff cv x2).2) kw ff cv x1 (fX3_sided (ff x1.toNatClampNeg) (fX3_sizeOf (ff x1.toNatClampNeg) (fX3_get kn kc kr ((fX3_isThere kn kc kr ((fX3_isThere kn kc kr kt kw ff cv x1).2) kw ff cv x2).2) kw ff cv x1 (2 : Int32))) (1 : Int32))).2.2), .int kr, .int ((fX3_isThere kn kc kr ((fX3_isThere kn kc kr kt kw ff cv x1).2) kw ff cv x2).2), .long kw]) := hn9_om
        have hg_fz : g3 fz = .inl (cyZ, 8, .inl ff) := (hr9 fz ne_fz_om ne_fz_cj).trans hg_fz
        have hg_cj : g3 cj = .inl (cyJ, 56, .inr (.inl ((fX3_becomes kn kc kr ((fX3_isThere kn kc kr ((fX3_isThere kn kc kr kt kw ff cv x1).2) kw ff cv x2).2) kw ff cv x1 (fX3_sided (ff x1.toNatClampNeg) (fX3_sizeOf (ff x1.toNatClampNeg) (fX3_get kn kc kr ((fX3_isThere kn kc kr ((fX3_isThere kn kc kr kt kw ff cv x1).2) kw ff cv x2).2) kw ff cv x1 (2 : Int32))) (1 : Int32))).2.1))) := hn9_cj
        have hrs : ∀ q : Nat, q ≠ om → q ≠ cj → g3 q = g q := fun q h_om h_cj => (hr9 q h_om h_cj).trans (hrs q h_om h_cj)
        have hF : fX3_face kn kc kr kt kw ff cv x1 x2 = ((fX3_becomes kn kc kr ((fX3_isThere kn kc kr ((fX3_isThere kn kc kr kt kw ff cv x1).2) kw ff cv x2).2) kw ff cv x1 (fX3_sided (ff x1.toNatClampNeg) (fX3_sizeOf (ff x1.toNatClampNeg) (fX3_get kn kc kr ((fX3_isThere kn kc kr ((fX3_isThere kn kc kr kt kw ff cv x1).2) kw ff cv x2).2) kw ff cv x1 (2 : Int32))) (1 : Int32))).1, (fX3_becomes kn kc kr ((fX3_isThere kn kc kr ((fX3_isThere kn kc kr kt kw ff cv x1).2) kw ff cv x2).2) kw ff cv x1 (fX3_sided (ff x1.toNatClampNeg) (fX3_sizeOf (ff x1.toNatClampNeg) (fX3_get kn kc kr ((fX3_isThere kn kc kr ((fX3_isThere kn kc kr kt kw ff cv x1).2) kw ff cv x2).2) kw ff cv x1 (2 : Int32))) (1 : Int32))).2.1, (fX3_becomes kn kc kr ((fX3_isThere kn kc kr ((fX3_isThere kn kc kr kt kw ff cv x1).2) kw ff cv x2).2) kw ff cv x1 (fX3_sided (ff x1.toNatClampNeg) (fX3_sizeOf (ff x1.toNatClampNeg) (fX3_get kn kc kr ((fX3_isThere kn kc kr ((fX3_isThere kn kc kr kt kw ff cv x1).2) kw ff cv x2).2) kw ff cv x1 (2 : Int32))) (1 : Int32))).2.2, (fX3_isThere kn kc kr ((fX3_isThere kn kc kr kt kw ff cv x1).2) kw ff cv x2).2) := (by unfold fX3_face; rw [if_neg c_1, if_neg c_2, if_neg c_3])
        have hF0 : (fX3_face kn kc kr kt kw ff cv x1 x2).1 = (fX3_becomes kn kc kr ((fX3_isThere kn kc kr ((fX3_isThere kn kc kr kt kw ff cv x1).2) kw ff cv x2).2) kw ff cv x1 (fX3_sided (ff x1.toNatClampNeg) (fX3_sizeOf (ff x1.toNatClampNeg) (fX3_get kn kc kr ((fX3_isThere kn kc kr ((fX3_isThere kn kc kr kt kw ff cv x1).2) kw ff cv x2).2) kw ff cv x1 (2 : Int32))) (1 : Int32))).1 := by rw [hF]
        have hF1 : (fX3_face kn kc kr kt kw ff cv x1 x2).2.1 = (fX3_becomes kn kc kr ((fX3_isThere kn kc kr ((fX3_isThere kn kc kr kt kw ff cv x1).2) kw ff cv x2).2) kw ff cv x1 (fX3_sided (ff x1.toNatClampNeg) (fX3_sizeOf (ff x1.toNatClampNeg) (fX3_get kn kc kr ((fX3_isThere kn kc kr ((fX3_isThere kn kc kr kt kw ff cv x1).2) kw ff cv x2).2) kw ff cv x1 (2 : Int32))) (1 : Int32))).2.1 := by rw [hF]
        have hF2 : (fX3_face kn kc kr kt kw ff cv x1 x2).2.2.1 = (fX3_becomes kn kc kr ((fX3_isThere kn kc kr ((fX3_isThere kn kc kr kt kw ff cv x1).2) kw ff cv x2).2) kw ff cv x1 (fX3_sided (ff x1.toNatClampNeg) (fX3_sizeOf (ff x1.toNatClampNeg) (fX3_get kn kc kr ((fX3_isThere kn kc kr ((fX3_isThere kn kc kr kt kw ff cv x1).2) kw ff cv x2).2) kw ff cv x1 (2 : Int32))) (1 : Int32))).2.2 := by rw [hF]
        have hF3 : (fX3_face kn kc kr kt kw ff cv x1 x2).2.2.2 = (fX3_isThere kn kc kr ((fX3_isThere kn kc kr kt kw ff cv x1).2) kw ff cv x2).2 := by rw [hF]
        exact W.lret hx hb hr (fun t ht hW => ⟨congrArg (fun z => Outcome.returned (some (Value.long z))) hF0.symm, ⟨g3, WM hP hK hD hKC0 hTC hS ht hW.alike, by rw [hF1, hF2, hF3]; exact ⟨hg_om, hg_cj, hrs⟩⟩, hS.F ht⟩) (fun q h => hS.2.2 q h) dX3_face_60
    · refine lv_lconst (v := 0) hx hb dX3_face_16 (by decide) ?_
      have hF : fX3_face kn kc kr kt kw ff cv x1 x2 = ((0 : Int64), cv, kc, (fX3_isThere kn kc kr ((fX3_isThere kn kc kr kt kw ff cv x1).2) kw ff cv x2).2) := (by unfold fX3_face; rw [if_neg c_1, if_pos c_2])
      have hF0 : (fX3_face kn kc kr kt kw ff cv x1 x2).1 = (0 : Int64) := by rw [hF]
      have hF1 : (fX3_face kn kc kr kt kw ff cv x1 x2).2.1 = cv := by rw [hF]
      have hF2 : (fX3_face kn kc kr kt kw ff cv x1 x2).2.2.1 = kc := by rw [hF]
      have hF3 : (fX3_face kn kc kr kt kw ff cv x1 x2).2.2.2 = (fX3_isThere kn kc kr ((fX3_isThere kn kc kr kt kw ff cv x1).2) kw ff cv x2).2 := by rw [hF]
      exact W.lret hx hb hr (fun t ht hW => ⟨congrArg (fun z => Outcome.returned (some (Value.long z))) hF0.symm, ⟨g2, WM hP hK hD hKC0 hTC hS ht hW.alike, by rw [hF1, hF2, hF3]; exact ⟨hg_om, hg_cj, hrs⟩⟩, hS.F ht⟩) (fun q h => hS.2.2 q h) dX3_face_17
def fX3_read (kn : Int32) (kc : Int32) (kr : Int32) (kt : Int32) (kw : Int64) (ff : Nat → Int32) (cv : Nat → Int64) (x1 : Int32) (x2 : Int32) : Int64 × Int32 :=
  if ((fX3_isThere kn kc kr kt kw ff cv x1).1) = 0 then
    ((0 : Int64), (fX3_isThere kn kc kr kt kw ff cv x1).2)
  else
    if x2 < 0 then
      let v42_3 : Int64 := fX3_get kn kc kr (2 : Int32) kw ff cv x1 (2 : Int32)
      if x2 = 0 then
        (v42_3, (2 : Int32))
      else
        if x2 = 1 then
          (fX3_get kn kc kr (2 : Int32) kw ff cv x1 (0 : Int32), (2 : Int32))
        else
          if x2 = 2 then
            (fX3_get kn kc kr (2 : Int32) kw ff cv x1 (1 : Int32), (2 : Int32))
          else
            if x2 = 3 then
              (fX3_get kn kc kr (2 : Int32) kw ff cv x1 (4 : Int32), (2 : Int32))
            else
              if x2 = 4 then
                (fX3_get kn kc kr (2 : Int32) kw ff cv x1 (5 : Int32), (2 : Int32))
              else
                if x2 = 5 then
                  (fX3_get kn kc kr (2 : Int32) kw ff cv x1 (6 : Int32), (2 : Int32))
                else
                  if x2 = 6 then
                    (fX3_get kn kc kr (2 : Int32) kw ff cv x1 (3 : Int32), (2 : Int32))
                  else
                    if x2 = 7 then
                      (fX3_sizeOf (ff x1.toNatClampNeg) v42_3, (2 : Int32))
                    else
                      if x2 = 8 then
                        if (fX3_isNought (ff x1.toNatClampNeg) v42_3) = 0 then
                          if (ff x1.toNatClampNeg) = 0 then
                            if (0 : Int64) ≤ v42_3 then
                              (fX3_sided (ff x1.toNatClampNeg) (1065353216 : Int64) (0 : Int32), (2 : Int32))
                            else
                              (fX3_sided (ff x1.toNatClampNeg) (1065353216 : Int64) (1 : Int32), (2 : Int32))
                          else
                            if (0 : Int64) ≤ v42_3 then
                              (fX3_sided (ff x1.toNatClampNeg) (4607182418800017408 : Int64) (0 : Int32), (2 : Int32))
                            else
                              (fX3_sided (ff x1.toNatClampNeg) (4607182418800017408 : Int64) (1 : Int32), (2 : Int32))
                        else
                          (v42_3, (2 : Int32))
                      else
                        ((0 : Int64), (2 : Int32))
    else
      if x2 ≤ (8 : Int32) then
        let v42_18 : Int64 := fX3_get kn kc kr (0 : Int32) kw ff cv x1 (2 : Int32)
        if x2 = 0 then
          (v42_18, (0 : Int32))
        else
          if x2 = 1 then
            (fX3_get kn kc kr (0 : Int32) kw ff cv x1 (0 : Int32), (0 : Int32))
          else
            if x2 = 2 then
              (fX3_get kn kc kr (0 : Int32) kw ff cv x1 (1 : Int32), (0 : Int32))
            else
              if x2 = 3 then
                (fX3_get kn kc kr (0 : Int32) kw ff cv x1 (4 : Int32), (0 : Int32))
              else
                if x2 = 4 then
                  (fX3_get kn kc kr (0 : Int32) kw ff cv x1 (5 : Int32), (0 : Int32))
                else
                  if x2 = 5 then
                    (fX3_get kn kc kr (0 : Int32) kw ff cv x1 (6 : Int32), (0 : Int32))
                  else
                    if x2 = 6 then
                      (fX3_get kn kc kr (0 : Int32) kw ff cv x1 (3 : Int32), (0 : Int32))
                    else
                      if x2 = 7 then
                        (fX3_sizeOf (ff x1.toNatClampNeg) v42_18, (0 : Int32))
                      else
                        if x2 = 8 then
                          if (fX3_isNought (ff x1.toNatClampNeg) v42_18) = 0 then
                            if (ff x1.toNatClampNeg) = 0 then
                              if (0 : Int64) ≤ v42_18 then
                                (fX3_sided (ff x1.toNatClampNeg) (1065353216 : Int64) (0 : Int32), (0 : Int32))
                              else
                                (fX3_sided (ff x1.toNatClampNeg) (1065353216 : Int64) (1 : Int32), (0 : Int32))
                            else
                              if (0 : Int64) ≤ v42_18 then
                                (fX3_sided (ff x1.toNatClampNeg) (4607182418800017408 : Int64) (0 : Int32), (0 : Int32))
                              else
                                (fX3_sided (ff x1.toNatClampNeg) (4607182418800017408 : Int64) (1 : Int32), (0 : Int32))
                          else
                            (v42_18, (0 : Int32))
                        else
                          ((0 : Int64), (0 : Int32))
      else
        let v42_32 : Int64 := fX3_get kn kc kr (2 : Int32) kw ff cv x1 (2 : Int32)
        if x2 = 0 then
          (v42_32, (2 : Int32))
        else
          if x2 = 1 then
            (fX3_get kn kc kr (2 : Int32) kw ff cv x1 (0 : Int32), (2 : Int32))
          else
            if x2 = 2 then
              (fX3_get kn kc kr (2 : Int32) kw ff cv x1 (1 : Int32), (2 : Int32))
            else
              if x2 = 3 then
                (fX3_get kn kc kr (2 : Int32) kw ff cv x1 (4 : Int32), (2 : Int32))
              else
                if x2 = 4 then
                  (fX3_get kn kc kr (2 : Int32) kw ff cv x1 (5 : Int32), (2 : Int32))
                else
                  if x2 = 5 then
                    (fX3_get kn kc kr (2 : Int32) kw ff cv x1 (6 : Int32), (2 : Int32))
                  else
                    if x2 = 6 then
                      (fX3_get kn kc kr (2 : Int32) kw ff cv x1 (3 : Int32), (2 : Int32))
                    else
                      if x2 = 7 then
                        (fX3_sizeOf (ff x1.toNatClampNeg) v42_32, (2 : Int32))
                      else
                        if x2 = 8 then
                          if (fX3_isNought (ff x1.toNatClampNeg) v42_32) = 0 then
                            if (ff x1.toNatClampNeg) = 0 then
                              if (0 : Int64) ≤ v42_32 then
                                (fX3_sided (ff x1.toNatClampNeg) (1065353216 : Int64) (0 : Int32), (2 : Int32))
                              else
                                (fX3_sided (ff x1.toNatClampNeg) (1065353216 : Int64) (1 : Int32), (2 : Int32))
                            else
                              if (0 : Int64) ≤ v42_32 then
                                (fX3_sided (ff x1.toNatClampNeg) (4607182418800017408 : Int64) (0 : Int32), (2 : Int32))
                              else
                                (fX3_sided (ff x1.toNatClampNeg) (4607182418800017408 : Int64) (1 : Int32), (2 : Int32))
                          else
                            (v42_32, (2 : Int32))
                        else
                          ((0 : Int64), (2 : Int32))
theorem hd_X3_read : yX3_read.cls = RX3 ∧ yX3_read.cls ≠ "java/lang/invoke/MethodHandle" ∧ yX3_read.cls ≠ "java/lang/invoke/VarHandle" ∧ (parseMethodDescriptor yX3_read.desc).map (fun d => d.parameters.length) = some 2 := by decide +kernel
theorem hin_X3_X3_read : ∀ w ∈ wsX30, w ∈ wsX3_read := by decide +kernel
set_option maxHeartbeats 1000000 in
set_option maxRecDepth 100000 in
theorem c_X3_read (l : Launch) {cyJ : ClassId} {cyZ : ClassId} (D : va_G) (tys : List (ClassId × FieldType)) (ad : Nat → Nat) (L : List Nat) (g : Nat → va_E) (om fz cj : Nat) (kn : Int32) (kc : Int32) (kr : Int32) (kt : Int32) (kw : Int64) (ff : Nat → Int32) (cv : Nat → Int64) (x1 : Int32) (x2 : Int32) (hL_om : om ∈ L) (hL_fz : fz ∈ L) (hL_cj : cj ∈ L) (hg_om : g om = .inr (3, [.ref fz, .ref cj, .int kn, .int kc, .int kr, .int kt, .long kw])) (hg_fz : g fz = .inl (cyZ, 8, .inl ff)) (hg_cj : g cj = .inl (cyJ, 56, .inr (.inl cv))) (ne_fz_om : fz ≠ om) (ne_cj_om : cj ≠ om) (htJ : tys[0]? = some (cyJ, .long)) (htZ : tys[1]? = some (cyZ, .boolean)) (hkn : 0 ≤ kn ∧ kn ≤ 8) : Met l yX3_read wsX3_read ({ frames := 2, cells := 0, slots := 0, locals := 44 }) (PW D tys ad L g [.ref om, .int x1, .int x2]) (QE D tys ad L (some (.long ((fX3_read kn kc kr kt kw ff cv x1 x2).1))) (fun g1 => g1 om = .inr (3, [.ref fz, .ref cj, .int kn, .int kc, .int kr, .int ((fX3_read kn kc kr kt kw ff cv x1 x2).2), .long kw]) ∧ ∀ q : Nat, q ≠ om → g1 q = g q)) 0 0 (fun q => q ∈ L) := by
  refine Met.ofW (cc := cX3_read) (maxL := 6) (ret := (some .long)) (by decide) rfl ?_
  intro p e s m args below meth c s₁ B hml hv
  obtain ⟨rfl, ⟨hP, hK, hD0, hKC0, hTC⟩, hXN⟩ := hv
  have hP0 := hP
  have hD : va_D (fun q => q ∈ L) (va_pl L g) := we_D (fun _ h => h) hD0
  have hKC : KC ad (fun q => q ∈ L) s s.heap := hKC0.narrow (fun _ h => Or.inl h)
  have hS : va_S (fun q => q ∈ L) s.heap s.heap [] := va_S.rf
  have hx := B.exec
  have hb := B.bytes
  have hr := B.returns
  have hts := atoms_spec (ws := wsX3_read) B.pre
  have hown : s.vm.findClass RX3 = some m.cls := findClass_of_methodNamed B.named
  have hlocks := B.notSynchronized
  have hrs : ∀ q : Nat, q ≠ om → g q = g q := fun q _ => rfl
  have hl := lv_entry ([.ref om, .int x1, .int x2]) (n := 6) (Nat.le_of_ble_eq_true rfl)
  rw [lg_entry_eq]
  generalize (lg_sl ([.ref om, .int x1, .int x2]) ++ List.replicate (6 - (lg_sl ([.ref om, .int x1, .int x2])).length) Slot.unset).toArray = ls at hl ⊢
  have hl : lv_has ls 6 [(0, .ref om), (1, .int x1), (2, .int x2)] := hl
  refine lv_aload_n hx hb dX3_read_0 rfl (lv_at hl 0 rfl) ?_
  refine lv_iload_n hx hb dX3_read_1 rfl (lv_at hl 1 rfl) ?_
  refine mc_V (b := om) (As := [.int x1]) (rest := []) ⟨hx, hb, hml, hown, hts⟩ (c_X3_isThere l D tys ad L g  om fz cj kn kc kr kt kw ff cv x1 hL_om hL_fz hL_cj hg_om hg_fz hg_cj ne_fz_om ne_cj_om htJ htZ) (cwV 1 hts gX3_read_X3_isThere rfl rfl rfl hd_X3_isThere ⟨Nat.le_of_ble_eq_true rfl, Nat.le_of_ble_eq_true rfl⟩) (pg_recv hK hP hL_om hg_om rfl) (fun U hU hvm => WM hP hK hD hKC0 hTC hS hU hvm) hXN hS (fun _ h => h) rfl hl.1 rfl (lv_room (Nat.le_of_ble_eq_true rfl)) dX3_read_2 ⟨Nat.le_of_ble_eq_true rfl, Nat.le_of_ble_eq_true rfl⟩ (fun g1 H locs hp9 hP hD hS => ?_)
  refine W.eq (g2 := F0 m 5 ls [.int ((fX3_isThere kn kc kr kt kw ff cv x1).1)]) rfl ?_
  obtain ⟨hn9_om, hr9⟩ := hp9
  have hg_om : g1 om = .inr (3, [.ref fz, .ref cj, .int kn, .int kc, .int kr, .int ((fX3_isThere kn kc kr kt kw ff cv x1).2), .long kw]) := hn9_om
  have hg_fz : g1 fz = .inl (cyZ, 8, .inl ff) := (hr9 fz ne_fz_om).trans hg_fz
  have hg_cj : g1 cj = .inl (cyJ, 56, .inr (.inl cv)) := (hr9 cj ne_cj_om).trans hg_cj
  have hrs : ∀ q : Nat, q ≠ om → g1 q = g q := fun q h_om => (hr9 q h_om).trans (hrs q h_om)
  refine lv_if_ne (tgt := 10) hx hb dX3_read_5 (by decide) (fun c_1 => ?_) (fun c_1 => ?_)
  · refine lv_aload_n hx hb dX3_read_10 rfl (lv_at hl 0 rfl) ?_
    refine lv_iload_n hx hb dX3_read_11 rfl (lv_at hl 2 rfl) ?_
    refine lv_if_lt (tgt := 21) hx hb dX3_read_12 (by decide) (fun c_2 => ?_) (fun c_2 => ?_)
    · refine lv_iconst (v := 2) hx hb dX3_read_21 (by decide) ?_
      refine lv_goto (tgt := 26) hx hb dX3_read_22 (by decide) ?_
      refine pg_put (ty := .int) hx hb hts hin_X3_X3_read tyX3 tyX3_ok nmX3 hown hK hP hD hS hL_om hg_om rfl 5 (by decide) (hts (.fieldLink RX3 17 "NeedleBoardModel" "thrown" "I") (by decide +kernel)) rfl (by decide +kernel) rfl rfl (Nat.le_of_ble_eq_true rfl) dX3_read_26 (fun H locs hP hD hS => ?_)
      obtain ⟨g2, eg2⟩ : ∃ z : Nat → va_E, z = va_up g1 om (.inr (3, [.ref fz, .ref cj, .int kn, .int kc, .int kr, .int (2 : Int32), .long kw])) := ⟨_, rfl⟩
      have hP : va_P D vwCl (va_pl L g2) H := by rw [eg2]; exact hP
      have hD : va_D (fun q => q ∈ L) (va_pl L g2) := by rw [eg2]; exact hD
      have hg_om : g2 om = .inr (3, [.ref fz, .ref cj, .int kn, .int kc, .int kr, .int (2 : Int32), .long kw]) := by rw [eg2]; exact va_up_self _ _ _
      have hg_fz : g2 fz = .inl (cyZ, 8, .inl ff) := (congrFun eg2 fz).trans ((va_up_ne _ _ ne_fz_om).trans hg_fz)
      have hg_cj : g2 cj = .inl (cyJ, 56, .inr (.inl cv)) := (congrFun eg2 cj).trans ((va_up_ne _ _ ne_cj_om).trans hg_cj)
      have hrs : ∀ q : Nat, q ≠ om → g2 q = g q := fun q h_om => (congrFun eg2 q).trans ((va_up_ne _ _ h_om).trans (hrs q h_om))
      refine lv_aload_n hx hb dX3_read_29 rfl (lv_at hl 0 rfl) ?_
      refine pg_get hx hb hts hin_X3_X3_read hown hK hP hL_om hg_om rfl 0 (by decide) (hts (.fieldLink RX3 7 "NeedleBoardModel" "isFine" "[Z") (by decide +kernel)) rfl dX3_read_30 ?_
      refine lv_iload_n hx hb dX3_read_33 rfl (lv_at hl 1 rfl) ?_
      refine pg_zald hx hb hK hP 1 hL_fz hg_fz htZ (it_in hkn c_1) dX3_read_34 ?_
      refine lv_istore_n (lv' := [(3, .int (ff x1.toNatClampNeg)), (0, .ref om), (1, .int x1), (2, .int x2)]) hx hb dX3_read_35 rfl hl (by decide) rfl (fun ls hl => ?_)
      refine lv_aload_n hx hb dX3_read_36 rfl (lv_at hl 1 rfl) ?_
      refine lv_iload_n hx hb dX3_read_37 rfl (lv_at hl 2 rfl) ?_
      refine lv_iconst (v := 2) hx hb dX3_read_38 (by decide) ?_
      refine rc_V (b := om) (r := .long (fX3_get kn kc kr (2 : Int32) kw ff cv x1 (2 : Int32))) (As := [.int x1, .int (2 : Int32)]) (rest := []) ⟨hx, hb, hml, hown, hts⟩ (c_X3_get l D tys ad L g2  om fz cj kn kc kr (2 : Int32) kw ff cv x1 (2 : Int32) hL_om hL_fz hL_cj hg_om hg_fz hg_cj htJ htZ (ix_in (it_in hkn c_1) (by unfold vp_in; decide))) (cwV 2 hts gX3_read_X3_get rfl rfl rfl hd_X3_get ⟨Nat.le_of_ble_eq_true rfl, Nat.le_of_ble_eq_true rfl⟩) (pg_recv hK hP hL_om hg_om rfl) (fun U hU hvm => WM hP hK hD hKC0 hTC hS hU hvm) hXN rfl hl.1 rfl (lv_room (Nat.le_of_ble_eq_true rfl)) dX3_read_39 ⟨Nat.le_of_ble_eq_true rfl, Nat.le_of_ble_eq_true rfl⟩ ?_
      refine lv_topl (fun v42_3 e_v42_3 => ?_)
      refine lv_lstore (lv' := [(4, .long v42_3), (3, .int (ff x1.toNatClampNeg)), (0, .ref om), (1, .int x1), (2, .int x2)]) hx hb dX3_read_42 hl (by decide) rfl (fun ls hl => ?_)
      refine lv_iload_n hx hb dX3_read_44 rfl (lv_at hl 4 rfl) ?_
      by_cases c_4 : x2 = 0
      · refine lv_tableIn (tgt := 96) (off := 51) hx hb dX3_read_45 (by rw [c_4]; decide) (by rw [c_4]; decide) (by rw [c_4]; rfl) (by decide) ?_
        refine lv_lload hx hb dX3_read_96 (lv_at hl 0 rfl) ?_
        have hF : fX3_read kn kc kr kt kw ff cv x1 x2 = (v42_3, (2 : Int32)) := (by subst e_v42_3; unfold fX3_read; dsimp only; rw [if_neg c_1, if_pos c_2, if_pos c_4])
        have hF0 : (fX3_read kn kc kr kt kw ff cv x1 x2).1 = v42_3 := by rw [hF]
        have hF1 : (fX3_read kn kc kr kt kw ff cv x1 x2).2 = (2 : Int32) := by rw [hF]
        exact W.lret hx hb hr (fun t ht hW => ⟨congrArg (fun z => Outcome.returned (some (Value.long z))) hF0.symm, ⟨g2, WM hP hK hD hKC0 hTC hS ht hW.alike, by rw [hF1]; exact ⟨hg_om, hrs⟩⟩, hS.F ht⟩) (fun q h => hS.2.2 q h) dX3_read_98
      · by_cases c_5 : x2 = 1
        · refine lv_tableIn (tgt := 99) (off := 54) hx hb dX3_read_45 (by rw [c_5]; decide) (by rw [c_5]; decide) (by rw [c_5]; rfl) (by decide) ?_
          refine lv_aload_n hx hb dX3_read_99 rfl (lv_at hl 2 rfl) ?_
          refine lv_iload_n hx hb dX3_read_100 rfl (lv_at hl 3 rfl) ?_
          refine lv_iconst (v := 0) hx hb dX3_read_101 (by decide) ?_
          refine rc_V (b := om) (r := .long (fX3_get kn kc kr (2 : Int32) kw ff cv x1 (0 : Int32))) (As := [.int x1, .int (0 : Int32)]) (rest := []) ⟨hx, hb, hml, hown, hts⟩ (c_X3_get l D tys ad L g2  om fz cj kn kc kr (2 : Int32) kw ff cv x1 (0 : Int32) hL_om hL_fz hL_cj hg_om hg_fz hg_cj htJ htZ (ix_in (it_in hkn c_1) (by unfold vp_in; decide))) (cwV 2 hts gX3_read_X3_get rfl rfl rfl hd_X3_get ⟨Nat.le_of_ble_eq_true rfl, Nat.le_of_ble_eq_true rfl⟩) (pg_recv hK hP hL_om hg_om rfl) (fun U hU hvm => WM hP hK hD hKC0 hTC hS hU hvm) hXN rfl hl.1 rfl (lv_room (Nat.le_of_ble_eq_true rfl)) dX3_read_102 ⟨Nat.le_of_ble_eq_true rfl, Nat.le_of_ble_eq_true rfl⟩ ?_
          have hF : fX3_read kn kc kr kt kw ff cv x1 x2 = (fX3_get kn kc kr (2 : Int32) kw ff cv x1 (0 : Int32), (2 : Int32)) := (by subst e_v42_3; unfold fX3_read; dsimp only; rw [if_neg c_1, if_pos c_2, if_neg c_4, if_pos c_5])
          have hF0 : (fX3_read kn kc kr kt kw ff cv x1 x2).1 = fX3_get kn kc kr (2 : Int32) kw ff cv x1 (0 : Int32) := by rw [hF]
          have hF1 : (fX3_read kn kc kr kt kw ff cv x1 x2).2 = (2 : Int32) := by rw [hF]
          exact W.lret hx hb hr (fun t ht hW => ⟨congrArg (fun z => Outcome.returned (some (Value.long z))) hF0.symm, ⟨g2, WM hP hK hD hKC0 hTC hS ht hW.alike, by rw [hF1]; exact ⟨hg_om, hrs⟩⟩, hS.F ht⟩) (fun q h => hS.2.2 q h) dX3_read_105
        · by_cases c_6 : x2 = 2
          · refine lv_tableIn (tgt := 106) (off := 61) hx hb dX3_read_45 (by rw [c_6]; decide) (by rw [c_6]; decide) (by rw [c_6]; rfl) (by decide) ?_
            refine lv_aload_n hx hb dX3_read_106 rfl (lv_at hl 2 rfl) ?_
            refine lv_iload_n hx hb dX3_read_107 rfl (lv_at hl 3 rfl) ?_
            refine lv_iconst (v := 1) hx hb dX3_read_108 (by decide) ?_
            refine rc_V (b := om) (r := .long (fX3_get kn kc kr (2 : Int32) kw ff cv x1 (1 : Int32))) (As := [.int x1, .int (1 : Int32)]) (rest := []) ⟨hx, hb, hml, hown, hts⟩ (c_X3_get l D tys ad L g2  om fz cj kn kc kr (2 : Int32) kw ff cv x1 (1 : Int32) hL_om hL_fz hL_cj hg_om hg_fz hg_cj htJ htZ (ix_in (it_in hkn c_1) (by unfold vp_in; decide))) (cwV 2 hts gX3_read_X3_get rfl rfl rfl hd_X3_get ⟨Nat.le_of_ble_eq_true rfl, Nat.le_of_ble_eq_true rfl⟩) (pg_recv hK hP hL_om hg_om rfl) (fun U hU hvm => WM hP hK hD hKC0 hTC hS hU hvm) hXN rfl hl.1 rfl (lv_room (Nat.le_of_ble_eq_true rfl)) dX3_read_109 ⟨Nat.le_of_ble_eq_true rfl, Nat.le_of_ble_eq_true rfl⟩ ?_
            have hF : fX3_read kn kc kr kt kw ff cv x1 x2 = (fX3_get kn kc kr (2 : Int32) kw ff cv x1 (1 : Int32), (2 : Int32)) := (by subst e_v42_3; unfold fX3_read; dsimp only; rw [if_neg c_1, if_pos c_2, if_neg c_4, if_neg c_5, if_pos c_6])
            have hF0 : (fX3_read kn kc kr kt kw ff cv x1 x2).1 = fX3_get kn kc kr (2 : Int32) kw ff cv x1 (1 : Int32) := by rw [hF]
            have hF1 : (fX3_read kn kc kr kt kw ff cv x1 x2).2 = (2 : Int32) := by rw [hF]
            exact W.lret hx hb hr (fun t ht hW => ⟨congrArg (fun z => Outcome.returned (some (Value.long z))) hF0.symm, ⟨g2, WM hP hK hD hKC0 hTC hS ht hW.alike, by rw [hF1]; exact ⟨hg_om, hrs⟩⟩, hS.F ht⟩) (fun q h => hS.2.2 q h) dX3_read_112
          · by_cases c_7 : x2 = 3
            · refine lv_tableIn (tgt := 113) (off := 68) hx hb dX3_read_45 (by rw [c_7]; decide) (by rw [c_7]; decide) (by rw [c_7]; rfl) (by decide) ?_
              refine lv_aload_n hx hb dX3_read_113 rfl (lv_at hl 2 rfl) ?_
              refine lv_iload_n hx hb dX3_read_114 rfl (lv_at hl 3 rfl) ?_
              refine lv_iconst (v := 4) hx hb dX3_read_115 (by decide) ?_
              refine rc_V (b := om) (r := .long (fX3_get kn kc kr (2 : Int32) kw ff cv x1 (4 : Int32))) (As := [.int x1, .int (4 : Int32)]) (rest := []) ⟨hx, hb, hml, hown, hts⟩ (c_X3_get l D tys ad L g2  om fz cj kn kc kr (2 : Int32) kw ff cv x1 (4 : Int32) hL_om hL_fz hL_cj hg_om hg_fz hg_cj htJ htZ (ix_in (it_in hkn c_1) (by unfold vp_in; decide))) (cwV 2 hts gX3_read_X3_get rfl rfl rfl hd_X3_get ⟨Nat.le_of_ble_eq_true rfl, Nat.le_of_ble_eq_true rfl⟩) (pg_recv hK hP hL_om hg_om rfl) (fun U hU hvm => WM hP hK hD hKC0 hTC hS hU hvm) hXN rfl hl.1 rfl (lv_room (Nat.le_of_ble_eq_true rfl)) dX3_read_116 ⟨Nat.le_of_ble_eq_true rfl, Nat.le_of_ble_eq_true rfl⟩ ?_
              have hF : fX3_read kn kc kr kt kw ff cv x1 x2 = (fX3_get kn kc kr (2 : Int32) kw ff cv x1 (4 : Int32), (2 : Int32)) := (by subst e_v42_3; unfold fX3_read; dsimp only; rw [if_neg c_1, if_pos c_2, if_neg c_4, if_neg c_5, if_neg c_6, if_pos c_7])
              have hF0 : (fX3_read kn kc kr kt kw ff cv x1 x2).1 = fX3_get kn kc kr (2 : Int32) kw ff cv x1 (4 : Int32) := by rw [hF]
              have hF1 : (fX3_read kn kc kr kt kw ff cv x1 x2).2 = (2 : Int32) := by rw [hF]
              exact W.lret hx hb hr (fun t ht hW => ⟨congrArg (fun z => Outcome.returned (some (Value.long z))) hF0.symm, ⟨g2, WM hP hK hD hKC0 hTC hS ht hW.alike, by rw [hF1]; exact ⟨hg_om, hrs⟩⟩, hS.F ht⟩) (fun q h => hS.2.2 q h) dX3_read_119
            · by_cases c_8 : x2 = 4
              · refine lv_tableIn (tgt := 120) (off := 75) hx hb dX3_read_45 (by rw [c_8]; decide) (by rw [c_8]; decide) (by rw [c_8]; rfl) (by decide) ?_
                refine lv_aload_n hx hb dX3_read_120 rfl (lv_at hl 2 rfl) ?_
                refine lv_iload_n hx hb dX3_read_121 rfl (lv_at hl 3 rfl) ?_
                refine lv_iconst (v := 5) hx hb dX3_read_122 (by decide) ?_
                refine rc_V (b := om) (r := .long (fX3_get kn kc kr (2 : Int32) kw ff cv x1 (5 : Int32))) (As := [.int x1, .int (5 : Int32)]) (rest := []) ⟨hx, hb, hml, hown, hts⟩ (c_X3_get l D tys ad L g2  om fz cj kn kc kr (2 : Int32) kw ff cv x1 (5 : Int32) hL_om hL_fz hL_cj hg_om hg_fz hg_cj htJ htZ (ix_in (it_in hkn c_1) (by unfold vp_in; decide))) (cwV 2 hts gX3_read_X3_get rfl rfl rfl hd_X3_get ⟨Nat.le_of_ble_eq_true rfl, Nat.le_of_ble_eq_true rfl⟩) (pg_recv hK hP hL_om hg_om rfl) (fun U hU hvm => WM hP hK hD hKC0 hTC hS hU hvm) hXN rfl hl.1 rfl (lv_room (Nat.le_of_ble_eq_true rfl)) dX3_read_123 ⟨Nat.le_of_ble_eq_true rfl, Nat.le_of_ble_eq_true rfl⟩ ?_
                have hF : fX3_read kn kc kr kt kw ff cv x1 x2 = (fX3_get kn kc kr (2 : Int32) kw ff cv x1 (5 : Int32), (2 : Int32)) := (by subst e_v42_3; unfold fX3_read; dsimp only; rw [if_neg c_1, if_pos c_2, if_neg c_4, if_neg c_5, if_neg c_6, if_neg c_7, if_pos c_8])
                have hF0 : (fX3_read kn kc kr kt kw ff cv x1 x2).1 = fX3_get kn kc kr (2 : Int32) kw ff cv x1 (5 : Int32) := by rw [hF]
                have hF1 : (fX3_read kn kc kr kt kw ff cv x1 x2).2 = (2 : Int32) := by rw [hF]
                exact W.lret hx hb hr (fun t ht hW => ⟨congrArg (fun z => Outcome.returned (some (Value.long z))) hF0.symm, ⟨g2, WM hP hK hD hKC0 hTC hS ht hW.alike, by rw [hF1]; exact ⟨hg_om, hrs⟩⟩, hS.F ht⟩) (fun q h => hS.2.2 q h) dX3_read_126
              · by_cases c_9 : x2 = 5
                · refine lv_tableIn (tgt := 127) (off := 82) hx hb dX3_read_45 (by rw [c_9]; decide) (by rw [c_9]; decide) (by rw [c_9]; rfl) (by decide) ?_
                  refine lv_aload_n hx hb dX3_read_127 rfl (lv_at hl 2 rfl) ?_
                  refine lv_iload_n hx hb dX3_read_128 rfl (lv_at hl 3 rfl) ?_
                  refine lv_bipush (v := (6)) hx hb dX3_read_129 (by decide) ?_
                  refine rc_V (b := om) (r := .long (fX3_get kn kc kr (2 : Int32) kw ff cv x1 (6 : Int32))) (As := [.int x1, .int (6 : Int32)]) (rest := []) ⟨hx, hb, hml, hown, hts⟩ (c_X3_get l D tys ad L g2  om fz cj kn kc kr (2 : Int32) kw ff cv x1 (6 : Int32) hL_om hL_fz hL_cj hg_om hg_fz hg_cj htJ htZ (ix_in (it_in hkn c_1) (by unfold vp_in; decide))) (cwV 2 hts gX3_read_X3_get rfl rfl rfl hd_X3_get ⟨Nat.le_of_ble_eq_true rfl, Nat.le_of_ble_eq_true rfl⟩) (pg_recv hK hP hL_om hg_om rfl) (fun U hU hvm => WM hP hK hD hKC0 hTC hS hU hvm) hXN rfl hl.1 rfl (lv_room (Nat.le_of_ble_eq_true rfl)) dX3_read_131 ⟨Nat.le_of_ble_eq_true rfl, Nat.le_of_ble_eq_true rfl⟩ ?_
                  have hF : fX3_read kn kc kr kt kw ff cv x1 x2 = (fX3_get kn kc kr (2 : Int32) kw ff cv x1 (6 : Int32), (2 : Int32)) := (by subst e_v42_3; unfold fX3_read; dsimp only; rw [if_neg c_1, if_pos c_2, if_neg c_4, if_neg c_5, if_neg c_6, if_neg c_7, if_neg c_8, if_pos c_9])
                  have hF0 : (fX3_read kn kc kr kt kw ff cv x1 x2).1 = fX3_get kn kc kr (2 : Int32) kw ff cv x1 (6 : Int32) := by rw [hF]
                  have hF1 : (fX3_read kn kc kr kt kw ff cv x1 x2).2 = (2 : Int32) := by rw [hF]
                  exact W.lret hx hb hr (fun t ht hW => ⟨congrArg (fun z => Outcome.returned (some (Value.long z))) hF0.symm, ⟨g2, WM hP hK hD hKC0 hTC hS ht hW.alike, by rw [hF1]; exact ⟨hg_om, hrs⟩⟩, hS.F ht⟩) (fun q h => hS.2.2 q h) dX3_read_134
                · by_cases c_10 : x2 = 6
                  · refine lv_tableIn (tgt := 135) (off := 90) hx hb dX3_read_45 (by rw [c_10]; decide) (by rw [c_10]; decide) (by rw [c_10]; rfl) (by decide) ?_
                    refine lv_aload_n hx hb dX3_read_135 rfl (lv_at hl 2 rfl) ?_
                    refine lv_iload_n hx hb dX3_read_136 rfl (lv_at hl 3 rfl) ?_
                    refine lv_iconst (v := 3) hx hb dX3_read_137 (by decide) ?_
                    refine rc_V (b := om) (r := .long (fX3_get kn kc kr (2 : Int32) kw ff cv x1 (3 : Int32))) (As := [.int x1, .int (3 : Int32)]) (rest := []) ⟨hx, hb, hml, hown, hts⟩ (c_X3_get l D tys ad L g2  om fz cj kn kc kr (2 : Int32) kw ff cv x1 (3 : Int32) hL_om hL_fz hL_cj hg_om hg_fz hg_cj htJ htZ (ix_in (it_in hkn c_1) (by unfold vp_in; decide))) (cwV 2 hts gX3_read_X3_get rfl rfl rfl hd_X3_get ⟨Nat.le_of_ble_eq_true rfl, Nat.le_of_ble_eq_true rfl⟩) (pg_recv hK hP hL_om hg_om rfl) (fun U hU hvm => WM hP hK hD hKC0 hTC hS hU hvm) hXN rfl hl.1 rfl (lv_room (Nat.le_of_ble_eq_true rfl)) dX3_read_138 ⟨Nat.le_of_ble_eq_true rfl, Nat.le_of_ble_eq_true rfl⟩ ?_
                    have hF : fX3_read kn kc kr kt kw ff cv x1 x2 = (fX3_get kn kc kr (2 : Int32) kw ff cv x1 (3 : Int32), (2 : Int32)) := (by subst e_v42_3; unfold fX3_read; dsimp only; rw [if_neg c_1, if_pos c_2, if_neg c_4, if_neg c_5, if_neg c_6, if_neg c_7, if_neg c_8, if_neg c_9, if_pos c_10])
                    have hF0 : (fX3_read kn kc kr kt kw ff cv x1 x2).1 = fX3_get kn kc kr (2 : Int32) kw ff cv x1 (3 : Int32) := by rw [hF]
                    have hF1 : (fX3_read kn kc kr kt kw ff cv x1 x2).2 = (2 : Int32) := by rw [hF]
                    exact W.lret hx hb hr (fun t ht hW => ⟨congrArg (fun z => Outcome.returned (some (Value.long z))) hF0.symm, ⟨g2, WM hP hK hD hKC0 hTC hS ht hW.alike, by rw [hF1]; exact ⟨hg_om, hrs⟩⟩, hS.F ht⟩) (fun q h => hS.2.2 q h) dX3_read_141
                  · by_cases c_11 : x2 = 7
                    · refine lv_tableIn (tgt := 142) (off := 97) hx hb dX3_read_45 (by rw [c_11]; decide) (by rw [c_11]; decide) (by rw [c_11]; rfl) (by decide) ?_
                      refine lv_iload_n hx hb dX3_read_142 rfl (lv_at hl 1 rfl) ?_
                      refine lv_lload hx hb dX3_read_143 (lv_at hl 0 rfl) ?_
                      refine pc_0 (As := [.int (ff x1.toNatClampNeg), .long v42_3]) (rest := []) (r := .long (fX3_sizeOf (ff x1.toNatClampNeg) v42_3)) ⟨hx, hb, hml, hown, hts⟩ (c_X3_sizeOf l (ff x1.toNatClampNeg) v42_3) (va_cwS 2 hts gX3_read_X3_sizeOf rfl rfl rfl hd_X3_sizeOf ⟨Nat.le_of_ble_eq_true rfl, Nat.le_of_ble_eq_true rfl⟩) rfl hl.1 rfl (lv_room (Nat.le_of_ble_eq_true rfl)) dX3_read_145 ⟨Nat.le_of_ble_eq_true rfl, Nat.le_of_ble_eq_true rfl⟩ ?_
                      have hF : fX3_read kn kc kr kt kw ff cv x1 x2 = (fX3_sizeOf (ff x1.toNatClampNeg) v42_3, (2 : Int32)) := (by subst e_v42_3; unfold fX3_read; dsimp only; rw [if_neg c_1, if_pos c_2, if_neg c_4, if_neg c_5, if_neg c_6, if_neg c_7, if_neg c_8, if_neg c_9, if_neg c_10, if_pos c_11])
                      have hF0 : (fX3_read kn kc kr kt kw ff cv x1 x2).1 = fX3_sizeOf (ff x1.toNatClampNeg) v42_3 := by rw [hF]
                      have hF1 : (fX3_read kn kc kr kt kw ff cv x1 x2).2 = (2 : Int32) := by rw [hF]
                      exact W.lret hx hb hr (fun t ht hW => ⟨congrArg (fun z => Outcome.returned (some (Value.long z))) hF0.symm, ⟨g2, WM hP hK hD hKC0 hTC hS ht hW.alike, by rw [hF1]; exact ⟨hg_om, hrs⟩⟩, hS.F ht⟩) (fun q h => hS.2.2 q h) dX3_read_148
                    · by_cases c_12 : x2 = 8
                      · refine lv_tableIn (tgt := 149) (off := 104) hx hb dX3_read_45 (by rw [c_12]; decide) (by rw [c_12]; decide) (by rw [c_12]; rfl) (by decide) ?_
                        refine lv_iload_n hx hb dX3_read_149 rfl (lv_at hl 1 rfl) ?_
                        refine lv_lload hx hb dX3_read_150 (lv_at hl 0 rfl) ?_
                        refine pc_0 (As := [.int (ff x1.toNatClampNeg), .long v42_3]) (rest := []) (r := .int (fX3_isNought (ff x1.toNatClampNeg) v42_3)) ⟨hx, hb, hml, hown, hts⟩ (c_X3_isNought l (ff x1.toNatClampNeg) v42_3) (va_cwS 2 hts gX3_read_X3_isNought rfl rfl rfl hd_X3_isNought ⟨Nat.le_of_ble_eq_true rfl, Nat.le_of_ble_eq_true rfl⟩) rfl hl.1 rfl (lv_room (Nat.le_of_ble_eq_true rfl)) dX3_read_152 ⟨Nat.le_of_ble_eq_true rfl, Nat.le_of_ble_eq_true rfl⟩ ?_
                        refine lv_if_eq (tgt := 163) hx hb dX3_read_155 (by decide) (fun c_13 => ?_) (fun c_13 => ?_)
                        · refine lv_iload_n hx hb dX3_read_163 rfl (lv_at hl 1 rfl) ?_
                          refine lv_iload_n hx hb dX3_read_164 rfl (lv_at hl 1 rfl) ?_
                          refine lv_if_eq (tgt := 174) hx hb dX3_read_165 (by decide) (fun c_14 => ?_) (fun c_14 => ?_)
                          · refine lv_ldc2 (v := (1065353216)) hx hb hown (hts (.constantLong RX3 133 (1065353216)) (by decide +kernel)) dX3_read_174 ?_
                            refine lv_lload hx hb dX3_read_177 (lv_at hl 0 rfl) ?_
                            refine lv_lconst (v := 0) hx hb dX3_read_179 (by decide) ?_
                            refine pl_ge (tgt := 188) hx hb dX3_read_180 dX3_read_181 (by decide) (fun c_15 => ?_) (fun c_15 => ?_)
                            · refine lv_iconst (v := 0) hx hb dX3_read_188 (by decide) ?_
                              refine pc_0 (As := [.int (ff x1.toNatClampNeg), .long (1065353216 : Int64), .int (0 : Int32)]) (rest := []) (r := .long (fX3_sided (ff x1.toNatClampNeg) (1065353216 : Int64) (0 : Int32))) ⟨hx, hb, hml, hown, hts⟩ (c_X3_sided l (ff x1.toNatClampNeg) (1065353216 : Int64) (0 : Int32)) (va_cwS 3 hts gX3_read_X3_sided rfl rfl rfl hd_X3_sided ⟨Nat.le_of_ble_eq_true rfl, Nat.le_of_ble_eq_true rfl⟩) rfl hl.1 rfl (lv_room (Nat.le_of_ble_eq_true rfl)) dX3_read_189 ⟨Nat.le_of_ble_eq_true rfl, Nat.le_of_ble_eq_true rfl⟩ ?_
                              have hF : fX3_read kn kc kr kt kw ff cv x1 x2 = (fX3_sided (ff x1.toNatClampNeg) (1065353216 : Int64) (0 : Int32), (2 : Int32)) := (by subst e_v42_3; unfold fX3_read; dsimp only; rw [if_neg c_1, if_pos c_2, if_neg c_4, if_neg c_5, if_neg c_6, if_neg c_7, if_neg c_8, if_neg c_9, if_neg c_10, if_neg c_11, if_pos c_12, if_pos c_13, if_pos c_14, if_pos c_15])
                              have hF0 : (fX3_read kn kc kr kt kw ff cv x1 x2).1 = fX3_sided (ff x1.toNatClampNeg) (1065353216 : Int64) (0 : Int32) := by rw [hF]
                              have hF1 : (fX3_read kn kc kr kt kw ff cv x1 x2).2 = (2 : Int32) := by rw [hF]
                              exact W.lret hx hb hr (fun t ht hW => ⟨congrArg (fun z => Outcome.returned (some (Value.long z))) hF0.symm, ⟨g2, WM hP hK hD hKC0 hTC hS ht hW.alike, by rw [hF1]; exact ⟨hg_om, hrs⟩⟩, hS.F ht⟩) (fun q h => hS.2.2 q h) dX3_read_192
                            · refine lv_iconst (v := 1) hx hb dX3_read_184 (by decide) ?_
                              refine lv_goto (tgt := 189) hx hb dX3_read_185 (by decide) ?_
                              refine pc_0 (As := [.int (ff x1.toNatClampNeg), .long (1065353216 : Int64), .int (1 : Int32)]) (rest := []) (r := .long (fX3_sided (ff x1.toNatClampNeg) (1065353216 : Int64) (1 : Int32))) ⟨hx, hb, hml, hown, hts⟩ (c_X3_sided l (ff x1.toNatClampNeg) (1065353216 : Int64) (1 : Int32)) (va_cwS 3 hts gX3_read_X3_sided rfl rfl rfl hd_X3_sided ⟨Nat.le_of_ble_eq_true rfl, Nat.le_of_ble_eq_true rfl⟩) rfl hl.1 rfl (lv_room (Nat.le_of_ble_eq_true rfl)) dX3_read_189 ⟨Nat.le_of_ble_eq_true rfl, Nat.le_of_ble_eq_true rfl⟩ ?_
                              have hF : fX3_read kn kc kr kt kw ff cv x1 x2 = (fX3_sided (ff x1.toNatClampNeg) (1065353216 : Int64) (1 : Int32), (2 : Int32)) := (by subst e_v42_3; unfold fX3_read; dsimp only; rw [if_neg c_1, if_pos c_2, if_neg c_4, if_neg c_5, if_neg c_6, if_neg c_7, if_neg c_8, if_neg c_9, if_neg c_10, if_neg c_11, if_pos c_12, if_pos c_13, if_pos c_14, if_neg c_15])
                              have hF0 : (fX3_read kn kc kr kt kw ff cv x1 x2).1 = fX3_sided (ff x1.toNatClampNeg) (1065353216 : Int64) (1 : Int32) := by rw [hF]
                              have hF1 : (fX3_read kn kc kr kt kw ff cv x1 x2).2 = (2 : Int32) := by rw [hF]
                              exact W.lret hx hb hr (fun t ht hW => ⟨congrArg (fun z => Outcome.returned (some (Value.long z))) hF0.symm, ⟨g2, WM hP hK hD hKC0 hTC hS ht hW.alike, by rw [hF1]; exact ⟨hg_om, hrs⟩⟩, hS.F ht⟩) (fun q h => hS.2.2 q h) dX3_read_192
                          · refine lv_ldc2 (v := (4607182418800017408)) hx hb hown (hts (.constantLong RX3 131 (4607182418800017408)) (by decide +kernel)) dX3_read_168 ?_
                            refine lv_goto (tgt := 177) hx hb dX3_read_171 (by decide) ?_
                            refine lv_lload hx hb dX3_read_177 (lv_at hl 0 rfl) ?_
                            refine lv_lconst (v := 0) hx hb dX3_read_179 (by decide) ?_
                            refine pl_ge (tgt := 188) hx hb dX3_read_180 dX3_read_181 (by decide) (fun c_16 => ?_) (fun c_16 => ?_)
                            · refine lv_iconst (v := 0) hx hb dX3_read_188 (by decide) ?_
                              refine pc_0 (As := [.int (ff x1.toNatClampNeg), .long (4607182418800017408 : Int64), .int (0 : Int32)]) (rest := []) (r := .long (fX3_sided (ff x1.toNatClampNeg) (4607182418800017408 : Int64) (0 : Int32))) ⟨hx, hb, hml, hown, hts⟩ (c_X3_sided l (ff x1.toNatClampNeg) (4607182418800017408 : Int64) (0 : Int32)) (va_cwS 3 hts gX3_read_X3_sided rfl rfl rfl hd_X3_sided ⟨Nat.le_of_ble_eq_true rfl, Nat.le_of_ble_eq_true rfl⟩) rfl hl.1 rfl (lv_room (Nat.le_of_ble_eq_true rfl)) dX3_read_189 ⟨Nat.le_of_ble_eq_true rfl, Nat.le_of_ble_eq_true rfl⟩ ?_
                              have hF : fX3_read kn kc kr kt kw ff cv x1 x2 = (fX3_sided (ff x1.toNatClampNeg) (4607182418800017408 : Int64) (0 : Int32), (2 : Int32)) := (by subst e_v42_3; unfold fX3_read; dsimp only; rw [if_neg c_1, if_pos c_2, if_neg c_4, if_neg c_5, if_neg c_6, if_neg c_7, if_neg c_8, if_neg c_9, if_neg c_10, if_neg c_11, if_pos c_12, if_pos c_13, if_neg c_14, if_pos c_16])
                              have hF0 : (fX3_read kn kc kr kt kw ff cv x1 x2).1 = fX3_sided (ff x1.toNatClampNeg) (4607182418800017408 : Int64) (0 : Int32) := by rw [hF]
                              have hF1 : (fX3_read kn kc kr kt kw ff cv x1 x2).2 = (2 : Int32) := by rw [hF]
                              exact W.lret hx hb hr (fun t ht hW => ⟨congrArg (fun z => Outcome.returned (some (Value.long z))) hF0.symm, ⟨g2, WM hP hK hD hKC0 hTC hS ht hW.alike, by rw [hF1]; exact ⟨hg_om, hrs⟩⟩, hS.F ht⟩) (fun q h => hS.2.2 q h) dX3_read_192
                            · refine lv_iconst (v := 1) hx hb dX3_read_184 (by decide) ?_
                              refine lv_goto (tgt := 189) hx hb dX3_read_185 (by decide) ?_
                              refine pc_0 (As := [.int (ff x1.toNatClampNeg), .long (4607182418800017408 : Int64), .int (1 : Int32)]) (rest := []) (r := .long (fX3_sided (ff x1.toNatClampNeg) (4607182418800017408 : Int64) (1 : Int32))) ⟨hx, hb, hml, hown, hts⟩ (c_X3_sided l (ff x1.toNatClampNeg) (4607182418800017408 : Int64) (1 : Int32)) (va_cwS 3 hts gX3_read_X3_sided rfl rfl rfl hd_X3_sided ⟨Nat.le_of_ble_eq_true rfl, Nat.le_of_ble_eq_true rfl⟩) rfl hl.1 rfl (lv_room (Nat.le_of_ble_eq_true rfl)) dX3_read_189 ⟨Nat.le_of_ble_eq_true rfl, Nat.le_of_ble_eq_true rfl⟩ ?_
                              have hF : fX3_read kn kc kr kt kw ff cv x1 x2 = (fX3_sided (ff x1.toNatClampNeg) (4607182418800017408 : Int64) (1 : Int32), (2 : Int32)) := (by subst e_v42_3; unfold fX3_read; dsimp only; rw [if_neg c_1, if_pos c_2, if_neg c_4, if_neg c_5, if_neg c_6, if_neg c_7, if_neg c_8, if_neg c_9, if_neg c_10, if_neg c_11, if_pos c_12, if_pos c_13, if_neg c_14, if_neg c_16])
                              have hF0 : (fX3_read kn kc kr kt kw ff cv x1 x2).1 = fX3_sided (ff x1.toNatClampNeg) (4607182418800017408 : Int64) (1 : Int32) := by rw [hF]
                              have hF1 : (fX3_read kn kc kr kt kw ff cv x1 x2).2 = (2 : Int32) := by rw [hF]
                              exact W.lret hx hb hr (fun t ht hW => ⟨congrArg (fun z => Outcome.returned (some (Value.long z))) hF0.symm, ⟨g2, WM hP hK hD hKC0 hTC hS ht hW.alike, by rw [hF1]; exact ⟨hg_om, hrs⟩⟩, hS.F ht⟩) (fun q h => hS.2.2 q h) dX3_read_192
                        · refine lv_lload hx hb dX3_read_158 (lv_at hl 0 rfl) ?_
                          refine lv_goto (tgt := 192) hx hb dX3_read_160 (by decide) ?_
                          have hF : fX3_read kn kc kr kt kw ff cv x1 x2 = (v42_3, (2 : Int32)) := (by subst e_v42_3; unfold fX3_read; dsimp only; rw [if_neg c_1, if_pos c_2, if_neg c_4, if_neg c_5, if_neg c_6, if_neg c_7, if_neg c_8, if_neg c_9, if_neg c_10, if_neg c_11, if_pos c_12, if_neg c_13])
                          have hF0 : (fX3_read kn kc kr kt kw ff cv x1 x2).1 = v42_3 := by rw [hF]
                          have hF1 : (fX3_read kn kc kr kt kw ff cv x1 x2).2 = (2 : Int32) := by rw [hF]
                          exact W.lret hx hb hr (fun t ht hW => ⟨congrArg (fun z => Outcome.returned (some (Value.long z))) hF0.symm, ⟨g2, WM hP hK hD hKC0 hTC hS ht hW.alike, by rw [hF1]; exact ⟨hg_om, hrs⟩⟩, hS.F ht⟩) (fun q h => hS.2.2 q h) dX3_read_192
                      · refine lv_tableOut (tgt := 193) hx hb dX3_read_45 (by have h0 := lv_neT c_4 (a := 0) rfl; have h1 := lv_neT c_5 (a := 1) rfl; have h2 := lv_neT c_6 (a := 2) rfl; have h3 := lv_neT c_7 (a := 3) rfl; have h4 := lv_neT c_8 (a := 4) rfl; have h5 := lv_neT c_9 (a := 5) rfl; have h6 := lv_neT c_10 (a := 6) rfl; have h7 := lv_neT c_11 (a := 7) rfl; have h8 := lv_neT c_12 (a := 8) rfl; omega) (by decide) ?_
                        refine lv_lconst (v := 0) hx hb dX3_read_193 (by decide) ?_
                        have hF : fX3_read kn kc kr kt kw ff cv x1 x2 = ((0 : Int64), (2 : Int32)) := (by subst e_v42_3; unfold fX3_read; dsimp only; rw [if_neg c_1, if_pos c_2, if_neg c_4, if_neg c_5, if_neg c_6, if_neg c_7, if_neg c_8, if_neg c_9, if_neg c_10, if_neg c_11, if_neg c_12])
                        have hF0 : (fX3_read kn kc kr kt kw ff cv x1 x2).1 = (0 : Int64) := by rw [hF]
                        have hF1 : (fX3_read kn kc kr kt kw ff cv x1 x2).2 = (2 : Int32) := by rw [hF]
                        exact W.lret hx hb hr (fun t ht hW => ⟨congrArg (fun z => Outcome.returned (some (Value.long z))) hF0.symm, ⟨g2, WM hP hK hD hKC0 hTC hS ht hW.alike, by rw [hF1]; exact ⟨hg_om, hrs⟩⟩, hS.F ht⟩) (fun q h => hS.2.2 q h) dX3_read_194
    · refine lv_iload_n hx hb dX3_read_15 rfl (lv_at hl 2 rfl) ?_
      refine lv_bipush (v := (8)) hx hb dX3_read_16 (by decide) ?_
      refine lv_icmp_le (tgt := 25) hx hb dX3_read_18 (by decide) (fun c_17 => ?_) (fun c_17 => ?_)
      · refine lv_iconst (v := 0) hx hb dX3_read_25 (by decide) ?_
        refine pg_put (ty := .int) hx hb hts hin_X3_X3_read tyX3 tyX3_ok nmX3 hown hK hP hD hS hL_om hg_om rfl 5 (by decide) (hts (.fieldLink RX3 17 "NeedleBoardModel" "thrown" "I") (by decide +kernel)) rfl (by decide +kernel) rfl rfl (Nat.le_of_ble_eq_true rfl) dX3_read_26 (fun H locs hP hD hS => ?_)
        obtain ⟨g2, eg2⟩ : ∃ z : Nat → va_E, z = va_up g1 om (.inr (3, [.ref fz, .ref cj, .int kn, .int kc, .int kr, .int (0 : Int32), .long kw])) := ⟨_, rfl⟩
        have hP : va_P D vwCl (va_pl L g2) H := by rw [eg2]; exact hP
        have hD : va_D (fun q => q ∈ L) (va_pl L g2) := by rw [eg2]; exact hD
        have hg_om : g2 om = .inr (3, [.ref fz, .ref cj, .int kn, .int kc, .int kr, .int (0 : Int32), .long kw]) := by rw [eg2]; exact va_up_self _ _ _
        have hg_fz : g2 fz = .inl (cyZ, 8, .inl ff) := (congrFun eg2 fz).trans ((va_up_ne _ _ ne_fz_om).trans hg_fz)
        have hg_cj : g2 cj = .inl (cyJ, 56, .inr (.inl cv)) := (congrFun eg2 cj).trans ((va_up_ne _ _ ne_cj_om).trans hg_cj)
        have hrs : ∀ q : Nat, q ≠ om → g2 q = g q := fun q h_om => (congrFun eg2 q).trans ((va_up_ne _ _ h_om).trans (hrs q h_om))
        refine lv_aload_n hx hb dX3_read_29 rfl (lv_at hl 0 rfl) ?_
        refine pg_get hx hb hts hin_X3_X3_read hown hK hP hL_om hg_om rfl 0 (by decide) (hts (.fieldLink RX3 7 "NeedleBoardModel" "isFine" "[Z") (by decide +kernel)) rfl dX3_read_30 ?_
        refine lv_iload_n hx hb dX3_read_33 rfl (lv_at hl 1 rfl) ?_
        refine pg_zald hx hb hK hP 1 hL_fz hg_fz htZ (it_in hkn c_1) dX3_read_34 ?_
        refine lv_istore_n (lv' := [(3, .int (ff x1.toNatClampNeg)), (0, .ref om), (1, .int x1), (2, .int x2)]) hx hb dX3_read_35 rfl hl (by decide) rfl (fun ls hl => ?_)
        refine lv_aload_n hx hb dX3_read_36 rfl (lv_at hl 1 rfl) ?_
        refine lv_iload_n hx hb dX3_read_37 rfl (lv_at hl 2 rfl) ?_
        refine lv_iconst (v := 2) hx hb dX3_read_38 (by decide) ?_
        refine rc_V (b := om) (r := .long (fX3_get kn kc kr (0 : Int32) kw ff cv x1 (2 : Int32))) (As := [.int x1, .int (2 : Int32)]) (rest := []) ⟨hx, hb, hml, hown, hts⟩ (c_X3_get l D tys ad L g2  om fz cj kn kc kr (0 : Int32) kw ff cv x1 (2 : Int32) hL_om hL_fz hL_cj hg_om hg_fz hg_cj htJ htZ (ix_in (it_in hkn c_1) (by unfold vp_in; decide))) (cwV 2 hts gX3_read_X3_get rfl rfl rfl hd_X3_get ⟨Nat.le_of_ble_eq_true rfl, Nat.le_of_ble_eq_true rfl⟩) (pg_recv hK hP hL_om hg_om rfl) (fun U hU hvm => WM hP hK hD hKC0 hTC hS hU hvm) hXN rfl hl.1 rfl (lv_room (Nat.le_of_ble_eq_true rfl)) dX3_read_39 ⟨Nat.le_of_ble_eq_true rfl, Nat.le_of_ble_eq_true rfl⟩ ?_
        refine lv_topl (fun v42_18 e_v42_18 => ?_)
        refine lv_lstore (lv' := [(4, .long v42_18), (3, .int (ff x1.toNatClampNeg)), (0, .ref om), (1, .int x1), (2, .int x2)]) hx hb dX3_read_42 hl (by decide) rfl (fun ls hl => ?_)
        refine lv_iload_n hx hb dX3_read_44 rfl (lv_at hl 4 rfl) ?_
        by_cases c_19 : x2 = 0
        · refine lv_tableIn (tgt := 96) (off := 51) hx hb dX3_read_45 (by rw [c_19]; decide) (by rw [c_19]; decide) (by rw [c_19]; rfl) (by decide) ?_
          refine lv_lload hx hb dX3_read_96 (lv_at hl 0 rfl) ?_
          have hF : fX3_read kn kc kr kt kw ff cv x1 x2 = (v42_18, (0 : Int32)) := (by subst e_v42_18; unfold fX3_read; dsimp only; rw [if_neg c_1, if_neg c_2, if_pos c_17, if_pos c_19])
          have hF0 : (fX3_read kn kc kr kt kw ff cv x1 x2).1 = v42_18 := by rw [hF]
          have hF1 : (fX3_read kn kc kr kt kw ff cv x1 x2).2 = (0 : Int32) := by rw [hF]
          exact W.lret hx hb hr (fun t ht hW => ⟨congrArg (fun z => Outcome.returned (some (Value.long z))) hF0.symm, ⟨g2, WM hP hK hD hKC0 hTC hS ht hW.alike, by rw [hF1]; exact ⟨hg_om, hrs⟩⟩, hS.F ht⟩) (fun q h => hS.2.2 q h) dX3_read_98
        · by_cases c_20 : x2 = 1
          · refine lv_tableIn (tgt := 99) (off := 54) hx hb dX3_read_45 (by rw [c_20]; decide) (by rw [c_20]; decide) (by rw [c_20]; rfl) (by decide) ?_
            refine lv_aload_n hx hb dX3_read_99 rfl (lv_at hl 2 rfl) ?_
            refine lv_iload_n hx hb dX3_read_100 rfl (lv_at hl 3 rfl) ?_
            refine lv_iconst (v := 0) hx hb dX3_read_101 (by decide) ?_
            refine rc_V (b := om) (r := .long (fX3_get kn kc kr (0 : Int32) kw ff cv x1 (0 : Int32))) (As := [.int x1, .int (0 : Int32)]) (rest := []) ⟨hx, hb, hml, hown, hts⟩ (c_X3_get l D tys ad L g2  om fz cj kn kc kr (0 : Int32) kw ff cv x1 (0 : Int32) hL_om hL_fz hL_cj hg_om hg_fz hg_cj htJ htZ (ix_in (it_in hkn c_1) (by unfold vp_in; decide))) (cwV 2 hts gX3_read_X3_get rfl rfl rfl hd_X3_get ⟨Nat.le_of_ble_eq_true rfl, Nat.le_of_ble_eq_true rfl⟩) (pg_recv hK hP hL_om hg_om rfl) (fun U hU hvm => WM hP hK hD hKC0 hTC hS hU hvm) hXN rfl hl.1 rfl (lv_room (Nat.le_of_ble_eq_true rfl)) dX3_read_102 ⟨Nat.le_of_ble_eq_true rfl, Nat.le_of_ble_eq_true rfl⟩ ?_
            have hF : fX3_read kn kc kr kt kw ff cv x1 x2 = (fX3_get kn kc kr (0 : Int32) kw ff cv x1 (0 : Int32), (0 : Int32)) := (by subst e_v42_18; unfold fX3_read; dsimp only; rw [if_neg c_1, if_neg c_2, if_pos c_17, if_neg c_19, if_pos c_20])
            have hF0 : (fX3_read kn kc kr kt kw ff cv x1 x2).1 = fX3_get kn kc kr (0 : Int32) kw ff cv x1 (0 : Int32) := by rw [hF]
            have hF1 : (fX3_read kn kc kr kt kw ff cv x1 x2).2 = (0 : Int32) := by rw [hF]
            exact W.lret hx hb hr (fun t ht hW => ⟨congrArg (fun z => Outcome.returned (some (Value.long z))) hF0.symm, ⟨g2, WM hP hK hD hKC0 hTC hS ht hW.alike, by rw [hF1]; exact ⟨hg_om, hrs⟩⟩, hS.F ht⟩) (fun q h => hS.2.2 q h) dX3_read_105
          · by_cases c_21 : x2 = 2
            · refine lv_tableIn (tgt := 106) (off := 61) hx hb dX3_read_45 (by rw [c_21]; decide) (by rw [c_21]; decide) (by rw [c_21]; rfl) (by decide) ?_
              refine lv_aload_n hx hb dX3_read_106 rfl (lv_at hl 2 rfl) ?_
              refine lv_iload_n hx hb dX3_read_107 rfl (lv_at hl 3 rfl) ?_
              refine lv_iconst (v := 1) hx hb dX3_read_108 (by decide) ?_
              refine rc_V (b := om) (r := .long (fX3_get kn kc kr (0 : Int32) kw ff cv x1 (1 : Int32))) (As := [.int x1, .int (1 : Int32)]) (rest := []) ⟨hx, hb, hml, hown, hts⟩ (c_X3_get l D tys ad L g2  om fz cj kn kc kr (0 : Int32) kw ff cv x1 (1 : Int32) hL_om hL_fz hL_cj hg_om hg_fz hg_cj htJ htZ (ix_in (it_in hkn c_1) (by unfold vp_in; decide))) (cwV 2 hts gX3_read_X3_get rfl rfl rfl hd_X3_get ⟨Nat.le_of_ble_eq_true rfl, Nat.le_of_ble_eq_true rfl⟩) (pg_recv hK hP hL_om hg_om rfl) (fun U hU hvm => WM hP hK hD hKC0 hTC hS hU hvm) hXN rfl hl.1 rfl (lv_room (Nat.le_of_ble_eq_true rfl)) dX3_read_109 ⟨Nat.le_of_ble_eq_true rfl, Nat.le_of_ble_eq_true rfl⟩ ?_
              have hF : fX3_read kn kc kr kt kw ff cv x1 x2 = (fX3_get kn kc kr (0 : Int32) kw ff cv x1 (1 : Int32), (0 : Int32)) := (by subst e_v42_18; unfold fX3_read; dsimp only; rw [if_neg c_1, if_neg c_2, if_pos c_17, if_neg c_19, if_neg c_20, if_pos c_21])
              have hF0 : (fX3_read kn kc kr kt kw ff cv x1 x2).1 = fX3_get kn kc kr (0 : Int32) kw ff cv x1 (1 : Int32) := by rw [hF]
              have hF1 : (fX3_read kn kc kr kt kw ff cv x1 x2).2 = (0 : Int32) := by rw [hF]
              exact W.lret hx hb hr (fun t ht hW => ⟨congrArg (fun z => Outcome.returned (some (Value.long z))) hF0.symm, ⟨g2, WM hP hK hD hKC0 hTC hS ht hW.alike, by rw [hF1]; exact ⟨hg_om, hrs⟩⟩, hS.F ht⟩) (fun q h => hS.2.2 q h) dX3_read_112
            · by_cases c_22 : x2 = 3
              · refine lv_tableIn (tgt := 113) (off := 68) hx hb dX3_read_45 (by rw [c_22]; decide) (by rw [c_22]; decide) (by rw [c_22]; rfl) (by decide) ?_
                refine lv_aload_n hx hb dX3_read_113 rfl (lv_at hl 2 rfl) ?_
                refine lv_iload_n hx hb dX3_read_114 rfl (lv_at hl 3 rfl) ?_
                refine lv_iconst (v := 4) hx hb dX3_read_115 (by decide) ?_
                refine rc_V (b := om) (r := .long (fX3_get kn kc kr (0 : Int32) kw ff cv x1 (4 : Int32))) (As := [.int x1, .int (4 : Int32)]) (rest := []) ⟨hx, hb, hml, hown, hts⟩ (c_X3_get l D tys ad L g2  om fz cj kn kc kr (0 : Int32) kw ff cv x1 (4 : Int32) hL_om hL_fz hL_cj hg_om hg_fz hg_cj htJ htZ (ix_in (it_in hkn c_1) (by unfold vp_in; decide))) (cwV 2 hts gX3_read_X3_get rfl rfl rfl hd_X3_get ⟨Nat.le_of_ble_eq_true rfl, Nat.le_of_ble_eq_true rfl⟩) (pg_recv hK hP hL_om hg_om rfl) (fun U hU hvm => WM hP hK hD hKC0 hTC hS hU hvm) hXN rfl hl.1 rfl (lv_room (Nat.le_of_ble_eq_true rfl)) dX3_read_116 ⟨Nat.le_of_ble_eq_true rfl, Nat.le_of_ble_eq_true rfl⟩ ?_
                have hF : fX3_read kn kc kr kt kw ff cv x1 x2 = (fX3_get kn kc kr (0 : Int32) kw ff cv x1 (4 : Int32), (0 : Int32)) := (by subst e_v42_18; unfold fX3_read; dsimp only; rw [if_neg c_1, if_neg c_2, if_pos c_17, if_neg c_19, if_neg c_20, if_neg c_21, if_pos c_22])
                have hF0 : (fX3_read kn kc kr kt kw ff cv x1 x2).1 = fX3_get kn kc kr (0 : Int32) kw ff cv x1 (4 : Int32) := by rw [hF]
                have hF1 : (fX3_read kn kc kr kt kw ff cv x1 x2).2 = (0 : Int32) := by rw [hF]
                exact W.lret hx hb hr (fun t ht hW => ⟨congrArg (fun z => Outcome.returned (some (Value.long z))) hF0.symm, ⟨g2, WM hP hK hD hKC0 hTC hS ht hW.alike, by rw [hF1]; exact ⟨hg_om, hrs⟩⟩, hS.F ht⟩) (fun q h => hS.2.2 q h) dX3_read_119
              · by_cases c_23 : x2 = 4
                · refine lv_tableIn (tgt := 120) (off := 75) hx hb dX3_read_45 (by rw [c_23]; decide) (by rw [c_23]; decide) (by rw [c_23]; rfl) (by decide) ?_
                  refine lv_aload_n hx hb dX3_read_120 rfl (lv_at hl 2 rfl) ?_
                  refine lv_iload_n hx hb dX3_read_121 rfl (lv_at hl 3 rfl) ?_
                  refine lv_iconst (v := 5) hx hb dX3_read_122 (by decide) ?_
                  refine rc_V (b := om) (r := .long (fX3_get kn kc kr (0 : Int32) kw ff cv x1 (5 : Int32))) (As := [.int x1, .int (5 : Int32)]) (rest := []) ⟨hx, hb, hml, hown, hts⟩ (c_X3_get l D tys ad L g2  om fz cj kn kc kr (0 : Int32) kw ff cv x1 (5 : Int32) hL_om hL_fz hL_cj hg_om hg_fz hg_cj htJ htZ (ix_in (it_in hkn c_1) (by unfold vp_in; decide))) (cwV 2 hts gX3_read_X3_get rfl rfl rfl hd_X3_get ⟨Nat.le_of_ble_eq_true rfl, Nat.le_of_ble_eq_true rfl⟩) (pg_recv hK hP hL_om hg_om rfl) (fun U hU hvm => WM hP hK hD hKC0 hTC hS hU hvm) hXN rfl hl.1 rfl (lv_room (Nat.le_of_ble_eq_true rfl)) dX3_read_123 ⟨Nat.le_of_ble_eq_true rfl, Nat.le_of_ble_eq_true rfl⟩ ?_
                  have hF : fX3_read kn kc kr kt kw ff cv x1 x2 = (fX3_get kn kc kr (0 : Int32) kw ff cv x1 (5 : Int32), (0 : Int32)) := (by subst e_v42_18; unfold fX3_read; dsimp only; rw [if_neg c_1, if_neg c_2, if_pos c_17, if_neg c_19, if_neg c_20, if_neg c_21, if_neg c_22, if_pos c_23])
                  have hF0 : (fX3_read kn kc kr kt kw ff cv x1 x2).1 = fX3_get kn kc kr (0 : Int32) kw ff cv x1 (5 : Int32) := by rw [hF]
                  have hF1 : (fX3_read kn kc kr kt kw ff cv x1 x2).2 = (0 : Int32) := by rw [hF]
                  exact W.lret hx hb hr (fun t ht hW => ⟨congrArg (fun z => Outcome.returned (some (Value.long z))) hF0.symm, ⟨g2, WM hP hK hD hKC0 hTC hS ht hW.alike, by rw [hF1]; exact ⟨hg_om, hrs⟩⟩, hS.F ht⟩) (fun q h => hS.2.2 q h) dX3_read_126
                · by_cases c_24 : x2 = 5
                  · refine lv_tableIn (tgt := 127) (off := 82) hx hb dX3_read_45 (by rw [c_24]; decide) (by rw [c_24]; decide) (by rw [c_24]; rfl) (by decide) ?_
                    refine lv_aload_n hx hb dX3_read_127 rfl (lv_at hl 2 rfl) ?_
                    refine lv_iload_n hx hb dX3_read_128 rfl (lv_at hl 3 rfl) ?_
                    refine lv_bipush (v := (6)) hx hb dX3_read_129 (by decide) ?_
                    refine rc_V (b := om) (r := .long (fX3_get kn kc kr (0 : Int32) kw ff cv x1 (6 : Int32))) (As := [.int x1, .int (6 : Int32)]) (rest := []) ⟨hx, hb, hml, hown, hts⟩ (c_X3_get l D tys ad L g2  om fz cj kn kc kr (0 : Int32) kw ff cv x1 (6 : Int32) hL_om hL_fz hL_cj hg_om hg_fz hg_cj htJ htZ (ix_in (it_in hkn c_1) (by unfold vp_in; decide))) (cwV 2 hts gX3_read_X3_get rfl rfl rfl hd_X3_get ⟨Nat.le_of_ble_eq_true rfl, Nat.le_of_ble_eq_true rfl⟩) (pg_recv hK hP hL_om hg_om rfl) (fun U hU hvm => WM hP hK hD hKC0 hTC hS hU hvm) hXN rfl hl.1 rfl (lv_room (Nat.le_of_ble_eq_true rfl)) dX3_read_131 ⟨Nat.le_of_ble_eq_true rfl, Nat.le_of_ble_eq_true rfl⟩ ?_
                    have hF : fX3_read kn kc kr kt kw ff cv x1 x2 = (fX3_get kn kc kr (0 : Int32) kw ff cv x1 (6 : Int32), (0 : Int32)) := (by subst e_v42_18; unfold fX3_read; dsimp only; rw [if_neg c_1, if_neg c_2, if_pos c_17, if_neg c_19, if_neg c_20, if_neg c_21, if_neg c_22, if_neg c_23, if_pos c_24])
                    have hF0 : (fX3_read kn kc kr kt kw ff cv x1 x2).1 = fX3_get kn kc kr (0 : Int32) kw ff cv x1 (6 : Int32) := by rw [hF]
                    have hF1 : (fX3_read kn kc kr kt kw ff cv x1 x2).2 = (0 : Int32) := by rw [hF]
                    exact W.lret hx hb hr (fun t ht hW => ⟨congrArg (fun z => Outcome.returned (some (Value.long z))) hF0.symm, ⟨g2, WM hP hK hD hKC0 hTC hS ht hW.alike, by rw [hF1]; exact ⟨hg_om, hrs⟩⟩, hS.F ht⟩) (fun q h => hS.2.2 q h) dX3_read_134
                  · by_cases c_25 : x2 = 6
                    · refine lv_tableIn (tgt := 135) (off := 90) hx hb dX3_read_45 (by rw [c_25]; decide) (by rw [c_25]; decide) (by rw [c_25]; rfl) (by decide) ?_
                      refine lv_aload_n hx hb dX3_read_135 rfl (lv_at hl 2 rfl) ?_
                      refine lv_iload_n hx hb dX3_read_136 rfl (lv_at hl 3 rfl) ?_
                      refine lv_iconst (v := 3) hx hb dX3_read_137 (by decide) ?_
                      refine rc_V (b := om) (r := .long (fX3_get kn kc kr (0 : Int32) kw ff cv x1 (3 : Int32))) (As := [.int x1, .int (3 : Int32)]) (rest := []) ⟨hx, hb, hml, hown, hts⟩ (c_X3_get l D tys ad L g2  om fz cj kn kc kr (0 : Int32) kw ff cv x1 (3 : Int32) hL_om hL_fz hL_cj hg_om hg_fz hg_cj htJ htZ (ix_in (it_in hkn c_1) (by unfold vp_in; decide))) (cwV 2 hts gX3_read_X3_get rfl rfl rfl hd_X3_get ⟨Nat.le_of_ble_eq_true rfl, Nat.le_of_ble_eq_true rfl⟩) (pg_recv hK hP hL_om hg_om rfl) (fun U hU hvm => WM hP hK hD hKC0 hTC hS hU hvm) hXN rfl hl.1 rfl (lv_room (Nat.le_of_ble_eq_true rfl)) dX3_read_138 ⟨Nat.le_of_ble_eq_true rfl, Nat.le_of_ble_eq_true rfl⟩ ?_
                      have hF : fX3_read kn kc kr kt kw ff cv x1 x2 = (fX3_get kn kc kr (0 : Int32) kw ff cv x1 (3 : Int32), (0 : Int32)) := (by subst e_v42_18; unfold fX3_read; dsimp only; rw [if_neg c_1, if_neg c_2, if_pos c_17, if_neg c_19, if_neg c_20, if_neg c_21, if_neg c_22, if_neg c_23, if_neg c_24, if_pos c_25])
                      have hF0 : (fX3_read kn kc kr kt kw ff cv x1 x2).1 = fX3_get kn kc kr (0 : Int32) kw ff cv x1 (3 : Int32) := by rw [hF]
                      have hF1 : (fX3_read kn kc kr kt kw ff cv x1 x2).2 = (0 : Int32) := by rw [hF]
                      exact W.lret hx hb hr (fun t ht hW => ⟨congrArg (fun z => Outcome.returned (some (Value.long z))) hF0.symm, ⟨g2, WM hP hK hD hKC0 hTC hS ht hW.alike, by rw [hF1]; exact ⟨hg_om, hrs⟩⟩, hS.F ht⟩) (fun q h => hS.2.2 q h) dX3_read_141
                    · by_cases c_26 : x2 = 7
                      · refine lv_tableIn (tgt := 142) (off := 97) hx hb dX3_read_45 (by rw [c_26]; decide) (by rw [c_26]; decide) (by rw [c_26]; rfl) (by decide) ?_
                        refine lv_iload_n hx hb dX3_read_142 rfl (lv_at hl 1 rfl) ?_
                        refine lv_lload hx hb dX3_read_143 (lv_at hl 0 rfl) ?_
                        refine pc_0 (As := [.int (ff x1.toNatClampNeg), .long v42_18]) (rest := []) (r := .long (fX3_sizeOf (ff x1.toNatClampNeg) v42_18)) ⟨hx, hb, hml, hown, hts⟩ (c_X3_sizeOf l (ff x1.toNatClampNeg) v42_18) (va_cwS 2 hts gX3_read_X3_sizeOf rfl rfl rfl hd_X3_sizeOf ⟨Nat.le_of_ble_eq_true rfl, Nat.le_of_ble_eq_true rfl⟩) rfl hl.1 rfl (lv_room (Nat.le_of_ble_eq_true rfl)) dX3_read_145 ⟨Nat.le_of_ble_eq_true rfl, Nat.le_of_ble_eq_true rfl⟩ ?_
                        have hF : fX3_read kn kc kr kt kw ff cv x1 x2 = (fX3_sizeOf (ff x1.toNatClampNeg) v42_18, (0 : Int32)) := (by subst e_v42_18; unfold fX3_read; dsimp only; rw [if_neg c_1, if_neg c_2, if_pos c_17, if_neg c_19, if_neg c_20, if_neg c_21, if_neg c_22, if_neg c_23, if_neg c_24, if_neg c_25, if_pos c_26])
                        have hF0 : (fX3_read kn kc kr kt kw ff cv x1 x2).1 = fX3_sizeOf (ff x1.toNatClampNeg) v42_18 := by rw [hF]
                        have hF1 : (fX3_read kn kc kr kt kw ff cv x1 x2).2 = (0 : Int32) := by rw [hF]
                        exact W.lret hx hb hr (fun t ht hW => ⟨congrArg (fun z => Outcome.returned (some (Value.long z))) hF0.symm, ⟨g2, WM hP hK hD hKC0 hTC hS ht hW.alike, by rw [hF1]; exact ⟨hg_om, hrs⟩⟩, hS.F ht⟩) (fun q h => hS.2.2 q h) dX3_read_148
                      · by_cases c_27 : x2 = 8
                        · refine lv_tableIn (tgt := 149) (off := 104) hx hb dX3_read_45 (by rw [c_27]; decide) (by rw [c_27]; decide) (by rw [c_27]; rfl) (by decide) ?_
                          refine lv_iload_n hx hb dX3_read_149 rfl (lv_at hl 1 rfl) ?_
                          refine lv_lload hx hb dX3_read_150 (lv_at hl 0 rfl) ?_
                          refine pc_0 (As := [.int (ff x1.toNatClampNeg), .long v42_18]) (rest := []) (r := .int (fX3_isNought (ff x1.toNatClampNeg) v42_18)) ⟨hx, hb, hml, hown, hts⟩ (c_X3_isNought l (ff x1.toNatClampNeg) v42_18) (va_cwS 2 hts gX3_read_X3_isNought rfl rfl rfl hd_X3_isNought ⟨Nat.le_of_ble_eq_true rfl, Nat.le_of_ble_eq_true rfl⟩) rfl hl.1 rfl (lv_room (Nat.le_of_ble_eq_true rfl)) dX3_read_152 ⟨Nat.le_of_ble_eq_true rfl, Nat.le_of_ble_eq_true rfl⟩ ?_
                          refine lv_if_eq (tgt := 163) hx hb dX3_read_155 (by decide) (fun c_28 => ?_) (fun c_28 => ?_)
                          · refine lv_iload_n hx hb dX3_read_163 rfl (lv_at hl 1 rfl) ?_
                            refine lv_iload_n hx hb dX3_read_164 rfl (lv_at hl 1 rfl) ?_
                            refine lv_if_eq (tgt := 174) hx hb dX3_read_165 (by decide) (fun c_29 => ?_) (fun c_29 => ?_)
                            · refine lv_ldc2 (v := (1065353216)) hx hb hown (hts (.constantLong RX3 133 (1065353216)) (by decide +kernel)) dX3_read_174 ?_
                              refine lv_lload hx hb dX3_read_177 (lv_at hl 0 rfl) ?_
                              refine lv_lconst (v := 0) hx hb dX3_read_179 (by decide) ?_
                              refine pl_ge (tgt := 188) hx hb dX3_read_180 dX3_read_181 (by decide) (fun c_30 => ?_) (fun c_30 => ?_)
                              · refine lv_iconst (v := 0) hx hb dX3_read_188 (by decide) ?_
                                refine pc_0 (As := [.int (ff x1.toNatClampNeg), .long (1065353216 : Int64), .int (0 : Int32)]) (rest := []) (r := .long (fX3_sided (ff x1.toNatClampNeg) (1065353216 : Int64) (0 : Int32))) ⟨hx, hb, hml, hown, hts⟩ (c_X3_sided l (ff x1.toNatClampNeg) (1065353216 : Int64) (0 : Int32)) (va_cwS 3 hts gX3_read_X3_sided rfl rfl rfl hd_X3_sided ⟨Nat.le_of_ble_eq_true rfl, Nat.le_of_ble_eq_true rfl⟩) rfl hl.1 rfl (lv_room (Nat.le_of_ble_eq_true rfl)) dX3_read_189 ⟨Nat.le_of_ble_eq_true rfl, Nat.le_of_ble_eq_true rfl⟩ ?_
                                have hF : fX3_read kn kc kr kt kw ff cv x1 x2 = (fX3_sided (ff x1.toNatClampNeg) (1065353216 : Int64) (0 : Int32), (0 : Int32)) := (by subst e_v42_18; unfold fX3_read; dsimp only; rw [if_neg c_1, if_neg c_2, if_pos c_17, if_neg c_19, if_neg c_20, if_neg c_21, if_neg c_22, if_neg c_23, if_neg c_24, if_neg c_25, if_neg c_26, if_pos c_27, if_pos c_28, if_pos c_29, if_pos c_30])
                                have hF0 : (fX3_read kn kc kr kt kw ff cv x1 x2).1 = fX3_sided (ff x1.toNatClampNeg) (1065353216 : Int64) (0 : Int32) := by rw [hF]
                                have hF1 : (fX3_read kn kc kr kt kw ff cv x1 x2).2 = (0 : Int32) := by rw [hF]
                                exact W.lret hx hb hr (fun t ht hW => ⟨congrArg (fun z => Outcome.returned (some (Value.long z))) hF0.symm, ⟨g2, WM hP hK hD hKC0 hTC hS ht hW.alike, by rw [hF1]; exact ⟨hg_om, hrs⟩⟩, hS.F ht⟩) (fun q h => hS.2.2 q h) dX3_read_192
                              · refine lv_iconst (v := 1) hx hb dX3_read_184 (by decide) ?_
                                refine lv_goto (tgt := 189) hx hb dX3_read_185 (by decide) ?_
                                refine pc_0 (As := [.int (ff x1.toNatClampNeg), .long (1065353216 : Int64), .int (1 : Int32)]) (rest := []) (r := .long (fX3_sided (ff x1.toNatClampNeg) (1065353216 : Int64) (1 : Int32))) ⟨hx, hb, hml, hown, hts⟩ (c_X3_sided l (ff x1.toNatClampNeg) (1065353216 : Int64) (1 : Int32)) (va_cwS 3 hts gX3_read_X3_sided rfl rfl rfl hd_X3_sided ⟨Nat.le_of_ble_eq_true rfl, Nat.le_of_ble_eq_true rfl⟩) rfl hl.1 rfl (lv_room (Nat.le_of_ble_eq_true rfl)) dX3_read_189 ⟨Nat.le_of_ble_eq_true rfl, Nat.le_of_ble_eq_true rfl⟩ ?_
                                have hF : fX3_read kn kc kr kt kw ff cv x1 x2 = (fX3_sided (ff x1.toNatClampNeg) (1065353216 : Int64) (1 : Int32), (0 : Int32)) := (by subst e_v42_18; unfold fX3_read; dsimp only; rw [if_neg c_1, if_neg c_2, if_pos c_17, if_neg c_19, if_neg c_20, if_neg c_21, if_neg c_22, if_neg c_23, if_neg c_24, if_neg c_25, if_neg c_26, if_pos c_27, if_pos c_28, if_pos c_29, if_neg c_30])
                                have hF0 : (fX3_read kn kc kr kt kw ff cv x1 x2).1 = fX3_sided (ff x1.toNatClampNeg) (1065353216 : Int64) (1 : Int32) := by rw [hF]
                                have hF1 : (fX3_read kn kc kr kt kw ff cv x1 x2).2 = (0 : Int32) := by rw [hF]
                                exact W.lret hx hb hr (fun t ht hW => ⟨congrArg (fun z => Outcome.returned (some (Value.long z))) hF0.symm, ⟨g2, WM hP hK hD hKC0 hTC hS ht hW.alike, by rw [hF1]; exact ⟨hg_om, hrs⟩⟩, hS.F ht⟩) (fun q h => hS.2.2 q h) dX3_read_192
                            · refine lv_ldc2 (v := (4607182418800017408)) hx hb hown (hts (.constantLong RX3 131 (4607182418800017408)) (by decide +kernel)) dX3_read_168 ?_
                              refine lv_goto (tgt := 177) hx hb dX3_read_171 (by decide) ?_
                              refine lv_lload hx hb dX3_read_177 (lv_at hl 0 rfl) ?_
                              refine lv_lconst (v := 0) hx hb dX3_read_179 (by decide) ?_
                              refine pl_ge (tgt := 188) hx hb dX3_read_180 dX3_read_181 (by decide) (fun c_31 => ?_) (fun c_31 => ?_)
                              · refine lv_iconst (v := 0) hx hb dX3_read_188 (by decide) ?_
                                refine pc_0 (As := [.int (ff x1.toNatClampNeg), .long (4607182418800017408 : Int64), .int (0 : Int32)]) (rest := []) (r := .long (fX3_sided (ff x1.toNatClampNeg) (4607182418800017408 : Int64) (0 : Int32))) ⟨hx, hb, hml, hown, hts⟩ (c_X3_sided l (ff x1.toNatClampNeg) (4607182418800017408 : Int64) (0 : Int32)) (va_cwS 3 hts gX3_read_X3_sided rfl rfl rfl hd_X3_sided ⟨Nat.le_of_ble_eq_true rfl, Nat.le_of_ble_eq_true rfl⟩) rfl hl.1 rfl (lv_room (Nat.le_of_ble_eq_true rfl)) dX3_read_189 ⟨Nat.le_of_ble_eq_true rfl, Nat.le_of_ble_eq_true rfl⟩ ?_
                                have hF : fX3_read kn kc kr kt kw ff cv x1 x2 = (fX3_sided (ff x1.toNatClampNeg) (4607182418800017408 : Int64) (0 : Int32), (0 : Int32)) := (by subst e_v42_18; unfold fX3_read; dsimp only; rw [if_neg c_1, if_neg c_2, if_pos c_17, if_neg c_19, if_neg c_20, if_neg c_21, if_neg c_22, if_neg c_23, if_neg c_24, if_neg c_25, if_neg c_26, if_pos c_27, if_pos c_28, if_neg c_29, if_pos c_31])
                                have hF0 : (fX3_read kn kc kr kt kw ff cv x1 x2).1 = fX3_sided (ff x1.toNatClampNeg) (4607182418800017408 : Int64) (0 : Int32) := by rw [hF]
                                have hF1 : (fX3_read kn kc kr kt kw ff cv x1 x2).2 = (0 : Int32) := by rw [hF]
                                exact W.lret hx hb hr (fun t ht hW => ⟨congrArg (fun z => Outcome.returned (some (Value.long z))) hF0.symm, ⟨g2, WM hP hK hD hKC0 hTC hS ht hW.alike, by rw [hF1]; exact ⟨hg_om, hrs⟩⟩, hS.F ht⟩) (fun q h => hS.2.2 q h) dX3_read_192
                              · refine lv_iconst (v := 1) hx hb dX3_read_184 (by decide) ?_
                                refine lv_goto (tgt := 189) hx hb dX3_read_185 (by decide) ?_
                                refine pc_0 (As := [.int (ff x1.toNatClampNeg), .long (4607182418800017408 : Int64), .int (1 : Int32)]) (rest := []) (r := .long (fX3_sided (ff x1.toNatClampNeg) (4607182418800017408 : Int64) (1 : Int32))) ⟨hx, hb, hml, hown, hts⟩ (c_X3_sided l (ff x1.toNatClampNeg) (4607182418800017408 : Int64) (1 : Int32)) (va_cwS 3 hts gX3_read_X3_sided rfl rfl rfl hd_X3_sided ⟨Nat.le_of_ble_eq_true rfl, Nat.le_of_ble_eq_true rfl⟩) rfl hl.1 rfl (lv_room (Nat.le_of_ble_eq_true rfl)) dX3_read_189 ⟨Nat.le_of_ble_eq_true rfl, Nat.le_of_ble_eq_true rfl⟩ ?_
                                have hF : fX3_read kn kc kr kt kw ff cv x1 x2 = (fX3_sided (ff x1.toNatClampNeg) (4607182418800017408 : Int64) (1 : Int32), (0 : Int32)) := (by subst e_v42_18; unfold fX3_read; dsimp only; rw [if_neg c_1, if_neg c_2, if_pos c_17, if_neg c_19, if_neg c_20, if_neg c_21, if_neg c_22, if_neg c_23, if_neg c_24, if_neg c_25, if_neg c_26, if_pos c_27, if_pos c_28, if_neg c_29, if_neg c_31])
                                have hF0 : (fX3_read kn kc kr kt kw ff cv x1 x2).1 = fX3_sided (ff x1.toNatClampNeg) (4607182418800017408 : Int64) (1 : Int32) := by rw [hF]
                                have hF1 : (fX3_read kn kc kr kt kw ff cv x1 x2).2 = (0 : Int32) := by rw [hF]
                                exact W.lret hx hb hr (fun t ht hW => ⟨congrArg (fun z => Outcome.returned (some (Value.long z))) hF0.symm, ⟨g2, WM hP hK hD hKC0 hTC hS ht hW.alike, by rw [hF1]; exact ⟨hg_om, hrs⟩⟩, hS.F ht⟩) (fun q h => hS.2.2 q h) dX3_read_192
                          · refine lv_lload hx hb dX3_read_158 (lv_at hl 0 rfl) ?_
                            refine lv_goto (tgt := 192) hx hb dX3_read_160 (by decide) ?_
                            have hF : fX3_read kn kc kr kt kw ff cv x1 x2 = (v42_18, (0 : Int32)) := (by subst e_v42_18; unfold fX3_read; dsimp only; rw [if_neg c_1, if_neg c_2, if_pos c_17, if_neg c_19, if_neg c_20, if_neg c_21, if_neg c_22, if_neg c_23, if_neg c_24, if_neg c_25, if_neg c_26, if_pos c_27, if_neg c_28])
                            have hF0 : (fX3_read kn kc kr kt kw ff cv x1 x2).1 = v42_18 := by rw [hF]
                            have hF1 : (fX3_read kn kc kr kt kw ff cv x1 x2).2 = (0 : Int32) := by rw [hF]
                            exact W.lret hx hb hr (fun t ht hW => ⟨congrArg (fun z => Outcome.returned (some (Value.long z))) hF0.symm, ⟨g2, WM hP hK hD hKC0 hTC hS ht hW.alike, by rw [hF1]; exact ⟨hg_om, hrs⟩⟩, hS.F ht⟩) (fun q h => hS.2.2 q h) dX3_read_192
                        · refine lv_tableOut (tgt := 193) hx hb dX3_read_45 (by have h0 := lv_neT c_19 (a := 0) rfl; have h1 := lv_neT c_20 (a := 1) rfl; have h2 := lv_neT c_21 (a := 2) rfl; have h3 := lv_neT c_22 (a := 3) rfl; have h4 := lv_neT c_23 (a := 4) rfl; have h5 := lv_neT c_24 (a := 5) rfl; have h6 := lv_neT c_25 (a := 6) rfl; have h7 := lv_neT c_26 (a := 7) rfl; have h8 := lv_neT c_27 (a := 8) rfl; omega) (by decide) ?_
                          refine lv_lconst (v := 0) hx hb dX3_read_193 (by decide) ?_
                          have hF : fX3_read kn kc kr kt kw ff cv x1 x2 = ((0 : Int64), (0 : Int32)) := (by subst e_v42_18; unfold fX3_read; dsimp only; rw [if_neg c_1, if_neg c_2, if_pos c_17, if_neg c_19, if_neg c_20, if_neg c_21, if_neg c_22, if_neg c_23, if_neg c_24, if_neg c_25, if_neg c_26, if_neg c_27])
                          have hF0 : (fX3_read kn kc kr kt kw ff cv x1 x2).1 = (0 : Int64) := by rw [hF]
                          have hF1 : (fX3_read kn kc kr kt kw ff cv x1 x2).2 = (0 : Int32) := by rw [hF]
                          exact W.lret hx hb hr (fun t ht hW => ⟨congrArg (fun z => Outcome.returned (some (Value.long z))) hF0.symm, ⟨g2, WM hP hK hD hKC0 hTC hS ht hW.alike, by rw [hF1]; exact ⟨hg_om, hrs⟩⟩, hS.F ht⟩) (fun q h => hS.2.2 q h) dX3_read_194
      · refine lv_iconst (v := 2) hx hb dX3_read_21 (by decide) ?_
        refine lv_goto (tgt := 26) hx hb dX3_read_22 (by decide) ?_
        refine pg_put (ty := .int) hx hb hts hin_X3_X3_read tyX3 tyX3_ok nmX3 hown hK hP hD hS hL_om hg_om rfl 5 (by decide) (hts (.fieldLink RX3 17 "NeedleBoardModel" "thrown" "I") (by decide +kernel)) rfl (by decide +kernel) rfl rfl (Nat.le_of_ble_eq_true rfl) dX3_read_26 (fun H locs hP hD hS => ?_)
        obtain ⟨g2, eg2⟩ : ∃ z : Nat → va_E, z = va_up g1 om (.inr (3, [.ref fz, .ref cj, .int kn, .int kc, .int kr, .int (2 : Int32), .long kw])) := ⟨_, rfl⟩
        have hP : va_P D vwCl (va_pl L g2) H := by rw [eg2]; exact hP
        have hD : va_D (fun q => q ∈ L) (va_pl L g2) := by rw [eg2]; exact hD
        have hg_om : g2 om = .inr (3, [.ref fz, .ref cj, .int kn, .int kc, .int kr, .int (2 : Int32), .long kw]) := by rw [eg2]; exact va_up_self _ _ _
        have hg_fz : g2 fz = .inl (cyZ, 8, .inl ff) := (congrFun eg2 fz).trans ((va_up_ne _ _ ne_fz_om).trans hg_fz)
        have hg_cj : g2 cj = .inl (cyJ, 56, .inr (.inl cv)) := (congrFun eg2 cj).trans ((va_up_ne _ _ ne_cj_om).trans hg_cj)
        have hrs : ∀ q : Nat, q ≠ om → g2 q = g q := fun q h_om => (congrFun eg2 q).trans ((va_up_ne _ _ h_om).trans (hrs q h_om))
        refine lv_aload_n hx hb dX3_read_29 rfl (lv_at hl 0 rfl) ?_
        refine pg_get hx hb hts hin_X3_X3_read hown hK hP hL_om hg_om rfl 0 (by decide) (hts (.fieldLink RX3 7 "NeedleBoardModel" "isFine" "[Z") (by decide +kernel)) rfl dX3_read_30 ?_
        refine lv_iload_n hx hb dX3_read_33 rfl (lv_at hl 1 rfl) ?_
        refine pg_zald hx hb hK hP 1 hL_fz hg_fz htZ (it_in hkn c_1) dX3_read_34 ?_
        refine lv_istore_n (lv' := [(3, .int (ff x1.toNatClampNeg)), (0, .ref om), (1, .int x1), (2, .int x2)]) hx hb dX3_read_35 rfl hl (by decide) rfl (fun ls hl => ?_)
        refine lv_aload_n hx hb dX3_read_36 rfl (lv_at hl 1 rfl) ?_
        refine lv_iload_n hx hb dX3_read_37 rfl (lv_at hl 2 rfl) ?_
        refine lv_iconst (v := 2) hx hb dX3_read_38 (by decide) ?_
        refine rc_V (b := om) (r := .long (fX3_get kn kc kr (2 : Int32) kw ff cv x1 (2 : Int32))) (As := [.int x1, .int (2 : Int32)]) (rest := []) ⟨hx, hb, hml, hown, hts⟩ (c_X3_get l D tys ad L g2  om fz cj kn kc kr (2 : Int32) kw ff cv x1 (2 : Int32) hL_om hL_fz hL_cj hg_om hg_fz hg_cj htJ htZ (ix_in (it_in hkn c_1) (by unfold vp_in; decide))) (cwV 2 hts gX3_read_X3_get rfl rfl rfl hd_X3_get ⟨Nat.le_of_ble_eq_true rfl, Nat.le_of_ble_eq_true rfl⟩) (pg_recv hK hP hL_om hg_om rfl) (fun U hU hvm => WM hP hK hD hKC0 hTC hS hU hvm) hXN rfl hl.1 rfl (lv_room (Nat.le_of_ble_eq_true rfl)) dX3_read_39 ⟨Nat.le_of_ble_eq_true rfl, Nat.le_of_ble_eq_true rfl⟩ ?_
        refine lv_topl (fun v42_32 e_v42_32 => ?_)
        refine lv_lstore (lv' := [(4, .long v42_32), (3, .int (ff x1.toNatClampNeg)), (0, .ref om), (1, .int x1), (2, .int x2)]) hx hb dX3_read_42 hl (by decide) rfl (fun ls hl => ?_)
        refine lv_iload_n hx hb dX3_read_44 rfl (lv_at hl 4 rfl) ?_
        by_cases c_33 : x2 = 0
        · refine lv_tableIn (tgt := 96) (off := 51) hx hb dX3_read_45 (by rw [c_33]; decide) (by rw [c_33]; decide) (by rw [c_33]; rfl) (by decide) ?_
          refine lv_lload hx hb dX3_read_96 (lv_at hl 0 rfl) ?_
          have hF : fX3_read kn kc kr kt kw ff cv x1 x2 = (v42_32, (2 : Int32)) := (by subst e_v42_32; unfold fX3_read; dsimp only; rw [if_neg c_1, if_neg c_2, if_neg c_17, if_pos c_33])
          have hF0 : (fX3_read kn kc kr kt kw ff cv x1 x2).1 = v42_32 := by rw [hF]
          have hF1 : (fX3_read kn kc kr kt kw ff cv x1 x2).2 = (2 : Int32) := by rw [hF]
          exact W.lret hx hb hr (fun t ht hW => ⟨congrArg (fun z => Outcome.returned (some (Value.long z))) hF0.symm, ⟨g2, WM hP hK hD hKC0 hTC hS ht hW.alike, by rw [hF1]; exact ⟨hg_om, hrs⟩⟩, hS.F ht⟩) (fun q h => hS.2.2 q h) dX3_read_98
        · by_cases c_34 : x2 = 1
          · refine lv_tableIn (tgt := 99) (off := 54) hx hb dX3_read_45 (by rw [c_34]; decide) (by rw [c_34]; decide) (by rw [c_34]; rfl) (by decide) ?_
            refine lv_aload_n hx hb dX3_read_99 rfl (lv_at hl 2 rfl) ?_
            refine lv_iload_n hx hb dX3_read_100 rfl (lv_at hl 3 rfl) ?_
            refine lv_iconst (v := 0) hx hb dX3_read_101 (by decide) ?_
            refine rc_V (b := om) (r := .long (fX3_get kn kc kr (2 : Int32) kw ff cv x1 (0 : Int32))) (As := [.int x1, .int (0 : Int32)]) (rest := []) ⟨hx, hb, hml, hown, hts⟩ (c_X3_get l D tys ad L g2  om fz cj kn kc kr (2 : Int32) kw ff cv x1 (0 : Int32) hL_om hL_fz hL_cj hg_om hg_fz hg_cj htJ htZ (ix_in (it_in hkn c_1) (by unfold vp_in; decide))) (cwV 2 hts gX3_read_X3_get rfl rfl rfl hd_X3_get ⟨Nat.le_of_ble_eq_true rfl, Nat.le_of_ble_eq_true rfl⟩) (pg_recv hK hP hL_om hg_om rfl) (fun U hU hvm => WM hP hK hD hKC0 hTC hS hU hvm) hXN rfl hl.1 rfl (lv_room (Nat.le_of_ble_eq_true rfl)) dX3_read_102 ⟨Nat.le_of_ble_eq_true rfl, Nat.le_of_ble_eq_true rfl⟩ ?_
            have hF : fX3_read kn kc kr kt kw ff cv x1 x2 = (fX3_get kn kc kr (2 : Int32) kw ff cv x1 (0 : Int32), (2 : Int32)) := (by subst e_v42_32; unfold fX3_read; dsimp only; rw [if_neg c_1, if_neg c_2, if_neg c_17, if_neg c_33, if_pos c_34])
            have hF0 : (fX3_read kn kc kr kt kw ff cv x1 x2).1 = fX3_get kn kc kr (2 : Int32) kw ff cv x1 (0 : Int32) := by rw [hF]
            have hF1 : (fX3_read kn kc kr kt kw ff cv x1 x2).2 = (2 : Int32) := by rw [hF]
            exact W.lret hx hb hr (fun t ht hW => ⟨congrArg (fun z => Outcome.returned (some (Value.long z))) hF0.symm, ⟨g2, WM hP hK hD hKC0 hTC hS ht hW.alike, by rw [hF1]; exact ⟨hg_om, hrs⟩⟩, hS.F ht⟩) (fun q h => hS.2.2 q h) dX3_read_105
          · by_cases c_35 : x2 = 2
            · refine lv_tableIn (tgt := 106) (off := 61) hx hb dX3_read_45 (by rw [c_35]; decide) (by rw [c_35]; decide) (by rw [c_35]; rfl) (by decide) ?_
              refine lv_aload_n hx hb dX3_read_106 rfl (lv_at hl 2 rfl) ?_
              refine lv_iload_n hx hb dX3_read_107 rfl (lv_at hl 3 rfl) ?_
              refine lv_iconst (v := 1) hx hb dX3_read_108 (by decide) ?_
              refine rc_V (b := om) (r := .long (fX3_get kn kc kr (2 : Int32) kw ff cv x1 (1 : Int32))) (As := [.int x1, .int (1 : Int32)]) (rest := []) ⟨hx, hb, hml, hown, hts⟩ (c_X3_get l D tys ad L g2  om fz cj kn kc kr (2 : Int32) kw ff cv x1 (1 : Int32) hL_om hL_fz hL_cj hg_om hg_fz hg_cj htJ htZ (ix_in (it_in hkn c_1) (by unfold vp_in; decide))) (cwV 2 hts gX3_read_X3_get rfl rfl rfl hd_X3_get ⟨Nat.le_of_ble_eq_true rfl, Nat.le_of_ble_eq_true rfl⟩) (pg_recv hK hP hL_om hg_om rfl) (fun U hU hvm => WM hP hK hD hKC0 hTC hS hU hvm) hXN rfl hl.1 rfl (lv_room (Nat.le_of_ble_eq_true rfl)) dX3_read_109 ⟨Nat.le_of_ble_eq_true rfl, Nat.le_of_ble_eq_true rfl⟩ ?_
              have hF : fX3_read kn kc kr kt kw ff cv x1 x2 = (fX3_get kn kc kr (2 : Int32) kw ff cv x1 (1 : Int32), (2 : Int32)) := (by subst e_v42_32; unfold fX3_read; dsimp only; rw [if_neg c_1, if_neg c_2, if_neg c_17, if_neg c_33, if_neg c_34, if_pos c_35])
              have hF0 : (fX3_read kn kc kr kt kw ff cv x1 x2).1 = fX3_get kn kc kr (2 : Int32) kw ff cv x1 (1 : Int32) := by rw [hF]
              have hF1 : (fX3_read kn kc kr kt kw ff cv x1 x2).2 = (2 : Int32) := by rw [hF]
              exact W.lret hx hb hr (fun t ht hW => ⟨congrArg (fun z => Outcome.returned (some (Value.long z))) hF0.symm, ⟨g2, WM hP hK hD hKC0 hTC hS ht hW.alike, by rw [hF1]; exact ⟨hg_om, hrs⟩⟩, hS.F ht⟩) (fun q h => hS.2.2 q h) dX3_read_112
            · by_cases c_36 : x2 = 3
              · refine lv_tableIn (tgt := 113) (off := 68) hx hb dX3_read_45 (by rw [c_36]; decide) (by rw [c_36]; decide) (by rw [c_36]; rfl) (by decide) ?_
                refine lv_aload_n hx hb dX3_read_113 rfl (lv_at hl 2 rfl) ?_
                refine lv_iload_n hx hb dX3_read_114 rfl (lv_at hl 3 rfl) ?_
                refine lv_iconst (v := 4) hx hb dX3_read_115 (by decide) ?_
                refine rc_V (b := om) (r := .long (fX3_get kn kc kr (2 : Int32) kw ff cv x1 (4 : Int32))) (As := [.int x1, .int (4 : Int32)]) (rest := []) ⟨hx, hb, hml, hown, hts⟩ (c_X3_get l D tys ad L g2  om fz cj kn kc kr (2 : Int32) kw ff cv x1 (4 : Int32) hL_om hL_fz hL_cj hg_om hg_fz hg_cj htJ htZ (ix_in (it_in hkn c_1) (by unfold vp_in; decide))) (cwV 2 hts gX3_read_X3_get rfl rfl rfl hd_X3_get ⟨Nat.le_of_ble_eq_true rfl, Nat.le_of_ble_eq_true rfl⟩) (pg_recv hK hP hL_om hg_om rfl) (fun U hU hvm => WM hP hK hD hKC0 hTC hS hU hvm) hXN rfl hl.1 rfl (lv_room (Nat.le_of_ble_eq_true rfl)) dX3_read_116 ⟨Nat.le_of_ble_eq_true rfl, Nat.le_of_ble_eq_true rfl⟩ ?_
                have hF : fX3_read kn kc kr kt kw ff cv x1 x2 = (fX3_get kn kc kr (2 : Int32) kw ff cv x1 (4 : Int32), (2 : Int32)) := (by subst e_v42_32; unfold fX3_read; dsimp only; rw [if_neg c_1, if_neg c_2, if_neg c_17, if_neg c_33, if_neg c_34, if_neg c_35, if_pos c_36])
                have hF0 : (fX3_read kn kc kr kt kw ff cv x1 x2).1 = fX3_get kn kc kr (2 : Int32) kw ff cv x1 (4 : Int32) := by rw [hF]
                have hF1 : (fX3_read kn kc kr kt kw ff cv x1 x2).2 = (2 : Int32) := by rw [hF]
                exact W.lret hx hb hr (fun t ht hW => ⟨congrArg (fun z => Outcome.returned (some (Value.long z))) hF0.symm, ⟨g2, WM hP hK hD hKC0 hTC hS ht hW.alike, by rw [hF1]; exact ⟨hg_om, hrs⟩⟩, hS.F ht⟩) (fun q h => hS.2.2 q h) dX3_read_119
              · by_cases c_37 : x2 = 4
                · refine lv_tableIn (tgt := 120) (off := 75) hx hb dX3_read_45 (by rw [c_37]; decide) (by rw [c_37]; decide) (by rw [c_37]; rfl) (by decide) ?_
                  refine lv_aload_n hx hb dX3_read_120 rfl (lv_at hl 2 rfl) ?_
                  refine lv_iload_n hx hb dX3_read_121 rfl (lv_at hl 3 rfl) ?_
                  refine lv_iconst (v := 5) hx hb dX3_read_122 (by decide) ?_
                  refine rc_V (b := om) (r := .long (fX3_get kn kc kr (2 : Int32) kw ff cv x1 (5 : Int32))) (As := [.int x1, .int (5 : Int32)]) (rest := []) ⟨hx, hb, hml, hown, hts⟩ (c_X3_get l D tys ad L g2  om fz cj kn kc kr (2 : Int32) kw ff cv x1 (5 : Int32) hL_om hL_fz hL_cj hg_om hg_fz hg_cj htJ htZ (ix_in (it_in hkn c_1) (by unfold vp_in; decide))) (cwV 2 hts gX3_read_X3_get rfl rfl rfl hd_X3_get ⟨Nat.le_of_ble_eq_true rfl, Nat.le_of_ble_eq_true rfl⟩) (pg_recv hK hP hL_om hg_om rfl) (fun U hU hvm => WM hP hK hD hKC0 hTC hS hU hvm) hXN rfl hl.1 rfl (lv_room (Nat.le_of_ble_eq_true rfl)) dX3_read_123 ⟨Nat.le_of_ble_eq_true rfl, Nat.le_of_ble_eq_true rfl⟩ ?_
                  have hF : fX3_read kn kc kr kt kw ff cv x1 x2 = (fX3_get kn kc kr (2 : Int32) kw ff cv x1 (5 : Int32), (2 : Int32)) := (by subst e_v42_32; unfold fX3_read; dsimp only; rw [if_neg c_1, if_neg c_2, if_neg c_17, if_neg c_33, if_neg c_34, if_neg c_35, if_neg c_36, if_pos c_37])
                  have hF0 : (fX3_read kn kc kr kt kw ff cv x1 x2).1 = fX3_get kn kc kr (2 : Int32) kw ff cv x1 (5 : Int32) := by rw [hF]
                  have hF1 : (fX3_read kn kc kr kt kw ff cv x1 x2).2 = (2 : Int32) := by rw [hF]
                  exact W.lret hx hb hr (fun t ht hW => ⟨congrArg (fun z => Outcome.returned (some (Value.long z))) hF0.symm, ⟨g2, WM hP hK hD hKC0 hTC hS ht hW.alike, by rw [hF1]; exact ⟨hg_om, hrs⟩⟩, hS.F ht⟩) (fun q h => hS.2.2 q h) dX3_read_126
                · by_cases c_38 : x2 = 5
                  · refine lv_tableIn (tgt := 127) (off := 82) hx hb dX3_read_45 (by rw [c_38]; decide) (by rw [c_38]; decide) (by rw [c_38]; rfl) (by decide) ?_
                    refine lv_aload_n hx hb dX3_read_127 rfl (lv_at hl 2 rfl) ?_
                    refine lv_iload_n hx hb dX3_read_128 rfl (lv_at hl 3 rfl) ?_
                    refine lv_bipush (v := (6)) hx hb dX3_read_129 (by decide) ?_
                    refine rc_V (b := om) (r := .long (fX3_get kn kc kr (2 : Int32) kw ff cv x1 (6 : Int32))) (As := [.int x1, .int (6 : Int32)]) (rest := []) ⟨hx, hb, hml, hown, hts⟩ (c_X3_get l D tys ad L g2  om fz cj kn kc kr (2 : Int32) kw ff cv x1 (6 : Int32) hL_om hL_fz hL_cj hg_om hg_fz hg_cj htJ htZ (ix_in (it_in hkn c_1) (by unfold vp_in; decide))) (cwV 2 hts gX3_read_X3_get rfl rfl rfl hd_X3_get ⟨Nat.le_of_ble_eq_true rfl, Nat.le_of_ble_eq_true rfl⟩) (pg_recv hK hP hL_om hg_om rfl) (fun U hU hvm => WM hP hK hD hKC0 hTC hS hU hvm) hXN rfl hl.1 rfl (lv_room (Nat.le_of_ble_eq_true rfl)) dX3_read_131 ⟨Nat.le_of_ble_eq_true rfl, Nat.le_of_ble_eq_true rfl⟩ ?_
                    have hF : fX3_read kn kc kr kt kw ff cv x1 x2 = (fX3_get kn kc kr (2 : Int32) kw ff cv x1 (6 : Int32), (2 : Int32)) := (by subst e_v42_32; unfold fX3_read; dsimp only; rw [if_neg c_1, if_neg c_2, if_neg c_17, if_neg c_33, if_neg c_34, if_neg c_35, if_neg c_36, if_neg c_37, if_pos c_38])
                    have hF0 : (fX3_read kn kc kr kt kw ff cv x1 x2).1 = fX3_get kn kc kr (2 : Int32) kw ff cv x1 (6 : Int32) := by rw [hF]
                    have hF1 : (fX3_read kn kc kr kt kw ff cv x1 x2).2 = (2 : Int32) := by rw [hF]
                    exact W.lret hx hb hr (fun t ht hW => ⟨congrArg (fun z => Outcome.returned (some (Value.long z))) hF0.symm, ⟨g2, WM hP hK hD hKC0 hTC hS ht hW.alike, by rw [hF1]; exact ⟨hg_om, hrs⟩⟩, hS.F ht⟩) (fun q h => hS.2.2 q h) dX3_read_134
                  · by_cases c_39 : x2 = 6
                    · refine lv_tableIn (tgt := 135) (off := 90) hx hb dX3_read_45 (by rw [c_39]; decide) (by rw [c_39]; decide) (by rw [c_39]; rfl) (by decide) ?_
                      refine lv_aload_n hx hb dX3_read_135 rfl (lv_at hl 2 rfl) ?_
                      refine lv_iload_n hx hb dX3_read_136 rfl (lv_at hl 3 rfl) ?_
                      refine lv_iconst (v := 3) hx hb dX3_read_137 (by decide) ?_
                      refine rc_V (b := om) (r := .long (fX3_get kn kc kr (2 : Int32) kw ff cv x1 (3 : Int32))) (As := [.int x1, .int (3 : Int32)]) (rest := []) ⟨hx, hb, hml, hown, hts⟩ (c_X3_get l D tys ad L g2  om fz cj kn kc kr (2 : Int32) kw ff cv x1 (3 : Int32) hL_om hL_fz hL_cj hg_om hg_fz hg_cj htJ htZ (ix_in (it_in hkn c_1) (by unfold vp_in; decide))) (cwV 2 hts gX3_read_X3_get rfl rfl rfl hd_X3_get ⟨Nat.le_of_ble_eq_true rfl, Nat.le_of_ble_eq_true rfl⟩) (pg_recv hK hP hL_om hg_om rfl) (fun U hU hvm => WM hP hK hD hKC0 hTC hS hU hvm) hXN rfl hl.1 rfl (lv_room (Nat.le_of_ble_eq_true rfl)) dX3_read_138 ⟨Nat.le_of_ble_eq_true rfl, Nat.le_of_ble_eq_true rfl⟩ ?_
                      have hF : fX3_read kn kc kr kt kw ff cv x1 x2 = (fX3_get kn kc kr (2 : Int32) kw ff cv x1 (3 : Int32), (2 : Int32)) := (by subst e_v42_32; unfold fX3_read; dsimp only; rw [if_neg c_1, if_neg c_2, if_neg c_17, if_neg c_33, if_neg c_34, if_neg c_35, if_neg c_36, if_neg c_37, if_neg c_38, if_pos c_39])
                      have hF0 : (fX3_read kn kc kr kt kw ff cv x1 x2).1 = fX3_get kn kc kr (2 : Int32) kw ff cv x1 (3 : Int32) := by rw [hF]
                      have hF1 : (fX3_read kn kc kr kt kw ff cv x1 x2).2 = (2 : Int32) := by rw [hF]
                      exact W.lret hx hb hr (fun t ht hW => ⟨congrArg (fun z => Outcome.returned (some (Value.long z))) hF0.symm, ⟨g2, WM hP hK hD hKC0 hTC hS ht hW.alike, by rw [hF1]; exact ⟨hg_om, hrs⟩⟩, hS.F ht⟩) (fun q h => hS.2.2 q h) dX3_read_141
                    · by_cases c_40 : x2 = 7
                      · refine lv_tableIn (tgt := 142) (off := 97) hx hb dX3_read_45 (by rw [c_40]; decide) (by rw [c_40]; decide) (by rw [c_40]; rfl) (by decide) ?_
                        refine lv_iload_n hx hb dX3_read_142 rfl (lv_at hl 1 rfl) ?_
                        refine lv_lload hx hb dX3_read_143 (lv_at hl 0 rfl) ?_
                        refine pc_0 (As := [.int (ff x1.toNatClampNeg), .long v42_32]) (rest := []) (r := .long (fX3_sizeOf (ff x1.toNatClampNeg) v42_32)) ⟨hx, hb, hml, hown, hts⟩ (c_X3_sizeOf l (ff x1.toNatClampNeg) v42_32) (va_cwS 2 hts gX3_read_X3_sizeOf rfl rfl rfl hd_X3_sizeOf ⟨Nat.le_of_ble_eq_true rfl, Nat.le_of_ble_eq_true rfl⟩) rfl hl.1 rfl (lv_room (Nat.le_of_ble_eq_true rfl)) dX3_read_145 ⟨Nat.le_of_ble_eq_true rfl, Nat.le_of_ble_eq_true rfl⟩ ?_
                        have hF : fX3_read kn kc kr kt kw ff cv x1 x2 = (fX3_sizeOf (ff x1.toNatClampNeg) v42_32, (2 : Int32)) := (by subst e_v42_32; unfold fX3_read; dsimp only; rw [if_neg c_1, if_neg c_2, if_neg c_17, if_neg c_33, if_neg c_34, if_neg c_35, if_neg c_36, if_neg c_37, if_neg c_38, if_neg c_39, if_pos c_40])
                        have hF0 : (fX3_read kn kc kr kt kw ff cv x1 x2).1 = fX3_sizeOf (ff x1.toNatClampNeg) v42_32 := by rw [hF]
                        have hF1 : (fX3_read kn kc kr kt kw ff cv x1 x2).2 = (2 : Int32) := by rw [hF]
                        exact W.lret hx hb hr (fun t ht hW => ⟨congrArg (fun z => Outcome.returned (some (Value.long z))) hF0.symm, ⟨g2, WM hP hK hD hKC0 hTC hS ht hW.alike, by rw [hF1]; exact ⟨hg_om, hrs⟩⟩, hS.F ht⟩) (fun q h => hS.2.2 q h) dX3_read_148
                      · by_cases c_41 : x2 = 8
                        · refine lv_tableIn (tgt := 149) (off := 104) hx hb dX3_read_45 (by rw [c_41]; decide) (by rw [c_41]; decide) (by rw [c_41]; rfl) (by decide) ?_
                          refine lv_iload_n hx hb dX3_read_149 rfl (lv_at hl 1 rfl) ?_
                          refine lv_lload hx hb dX3_read_150 (lv_at hl 0 rfl) ?_
                          refine pc_0 (As := [.int (ff x1.toNatClampNeg), .long v42_32]) (rest := []) (r := .int (fX3_isNought (ff x1.toNatClampNeg) v42_32)) ⟨hx, hb, hml, hown, hts⟩ (c_X3_isNought l (ff x1.toNatClampNeg) v42_32) (va_cwS 2 hts gX3_read_X3_isNought rfl rfl rfl hd_X3_isNought ⟨Nat.le_of_ble_eq_true rfl, Nat.le_of_ble_eq_true rfl⟩) rfl hl.1 rfl (lv_room (Nat.le_of_ble_eq_true rfl)) dX3_read_152 ⟨Nat.le_of_ble_eq_true rfl, Nat.le_of_ble_eq_true rfl⟩ ?_
                          refine lv_if_eq (tgt := 163) hx hb dX3_read_155 (by decide) (fun c_42 => ?_) (fun c_42 => ?_)
                          · refine lv_iload_n hx hb dX3_read_163 rfl (lv_at hl 1 rfl) ?_
                            refine lv_iload_n hx hb dX3_read_164 rfl (lv_at hl 1 rfl) ?_
                            refine lv_if_eq (tgt := 174) hx hb dX3_read_165 (by decide) (fun c_43 => ?_) (fun c_43 => ?_)
                            · refine lv_ldc2 (v := (1065353216)) hx hb hown (hts (.constantLong RX3 133 (1065353216)) (by decide +kernel)) dX3_read_174 ?_
                              refine lv_lload hx hb dX3_read_177 (lv_at hl 0 rfl) ?_
                              refine lv_lconst (v := 0) hx hb dX3_read_179 (by decide) ?_
                              refine pl_ge (tgt := 188) hx hb dX3_read_180 dX3_read_181 (by decide) (fun c_44 => ?_) (fun c_44 => ?_)
                              · refine lv_iconst (v := 0) hx hb dX3_read_188 (by decide) ?_
                                refine pc_0 (As := [.int (ff x1.toNatClampNeg), .long (1065353216 : Int64), .int (0 : Int32)]) (rest := []) (r := .long (fX3_sided (ff x1.toNatClampNeg) (1065353216 : Int64) (0 : Int32))) ⟨hx, hb, hml, hown, hts⟩ (c_X3_sided l (ff x1.toNatClampNeg) (1065353216 : Int64) (0 : Int32)) (va_cwS 3 hts gX3_read_X3_sided rfl rfl rfl hd_X3_sided ⟨Nat.le_of_ble_eq_true rfl, Nat.le_of_ble_eq_true rfl⟩) rfl hl.1 rfl (lv_room (Nat.le_of_ble_eq_true rfl)) dX3_read_189 ⟨Nat.le_of_ble_eq_true rfl, Nat.le_of_ble_eq_true rfl⟩ ?_
                                have hF : fX3_read kn kc kr kt kw ff cv x1 x2 = (fX3_sided (ff x1.toNatClampNeg) (1065353216 : Int64) (0 : Int32), (2 : Int32)) := (by subst e_v42_32; unfold fX3_read; dsimp only; rw [if_neg c_1, if_neg c_2, if_neg c_17, if_neg c_33, if_neg c_34, if_neg c_35, if_neg c_36, if_neg c_37, if_neg c_38, if_neg c_39, if_neg c_40, if_pos c_41, if_pos c_42, if_pos c_43, if_pos c_44])
                                have hF0 : (fX3_read kn kc kr kt kw ff cv x1 x2).1 = fX3_sided (ff x1.toNatClampNeg) (1065353216 : Int64) (0 : Int32) := by rw [hF]
                                have hF1 : (fX3_read kn kc kr kt kw ff cv x1 x2).2 = (2 : Int32) := by rw [hF]
                                exact W.lret hx hb hr (fun t ht hW => ⟨congrArg (fun z => Outcome.returned (some (Value.long z))) hF0.symm, ⟨g2, WM hP hK hD hKC0 hTC hS ht hW.alike, by rw [hF1]; exact ⟨hg_om, hrs⟩⟩, hS.F ht⟩) (fun q h => hS.2.2 q h) dX3_read_192
                              · refine lv_iconst (v := 1) hx hb dX3_read_184 (by decide) ?_
                                refine lv_goto (tgt := 189) hx hb dX3_read_185 (by decide) ?_
                                refine pc_0 (As := [.int (ff x1.toNatClampNeg), .long (1065353216 : Int64), .int (1 : Int32)]) (rest := []) (r := .long (fX3_sided (ff x1.toNatClampNeg) (1065353216 : Int64) (1 : Int32))) ⟨hx, hb, hml, hown, hts⟩ (c_X3_sided l (ff x1.toNatClampNeg) (1065353216 : Int64) (1 : Int32)) (va_cwS 3 hts gX3_read_X3_sided rfl rfl rfl hd_X3_sided ⟨Nat.le_of_ble_eq_true rfl, Nat.le_of_ble_eq_true rfl⟩) rfl hl.1 rfl (lv_room (Nat.le_of_ble_eq_true rfl)) dX3_read_189 ⟨Nat.le_of_ble_eq_true rfl, Nat.le_of_ble_eq_true rfl⟩ ?_
                                have hF : fX3_read kn kc kr kt kw ff cv x1 x2 = (fX3_sided (ff x1.toNatClampNeg) (1065353216 : Int64) (1 : Int32), (2 : Int32)) := (by subst e_v42_32; unfold fX3_read; dsimp only; rw [if_neg c_1, if_neg c_2, if_neg c_17, if_neg c_33, if_neg c_34, if_neg c_35, if_neg c_36, if_neg c_37, if_neg c_38, if_neg c_39, if_neg c_40, if_pos c_41, if_pos c_42, if_pos c_43, if_neg c_44])
                                have hF0 : (fX3_read kn kc kr kt kw ff cv x1 x2).1 = fX3_sided (ff x1.toNatClampNeg) (1065353216 : Int64) (1 : Int32) := by rw [hF]
                                have hF1 : (fX3_read kn kc kr kt kw ff cv x1 x2).2 = (2 : Int32) := by rw [hF]
                                exact W.lret hx hb hr (fun t ht hW => ⟨congrArg (fun z => Outcome.returned (some (Value.long z))) hF0.symm, ⟨g2, WM hP hK hD hKC0 hTC hS ht hW.alike, by rw [hF1]; exact ⟨hg_om, hrs⟩⟩, hS.F ht⟩) (fun q h => hS.2.2 q h) dX3_read_192
                            · refine lv_ldc2 (v := (4607182418800017408)) hx hb hown (hts (.constantLong RX3 131 (4607182418800017408)) (by decide +kernel)) dX3_read_168 ?_
                              refine lv_goto (tgt := 177) hx hb dX3_read_171 (by decide) ?_
                              refine lv_lload hx hb dX3_read_177 (lv_at hl 0 rfl) ?_
                              refine lv_lconst (v := 0) hx hb dX3_read_179 (by decide) ?_
                              refine pl_ge (tgt := 188) hx hb dX3_read_180 dX3_read_181 (by decide) (fun c_45 => ?_) (fun c_45 => ?_)
                              · refine lv_iconst (v := 0) hx hb dX3_read_188 (by decide) ?_
                                refine pc_0 (As := [.int (ff x1.toNatClampNeg), .long (4607182418800017408 : Int64), .int (0 : Int32)]) (rest := []) (r := .long (fX3_sided (ff x1.toNatClampNeg) (4607182418800017408 : Int64) (0 : Int32))) ⟨hx, hb, hml, hown, hts⟩ (c_X3_sided l (ff x1.toNatClampNeg) (4607182418800017408 : Int64) (0 : Int32)) (va_cwS 3 hts gX3_read_X3_sided rfl rfl rfl hd_X3_sided ⟨Nat.le_of_ble_eq_true rfl, Nat.le_of_ble_eq_true rfl⟩) rfl hl.1 rfl (lv_room (Nat.le_of_ble_eq_true rfl)) dX3_read_189 ⟨Nat.le_of_ble_eq_true rfl, Nat.le_of_ble_eq_true rfl⟩ ?_
                                have hF : fX3_read kn kc kr kt kw ff cv x1 x2 = (fX3_sided (ff x1.toNatClampNeg) (4607182418800017408 : Int64) (0 : Int32), (2 : Int32)) := (by subst e_v42_32; unfold fX3_read; dsimp only; rw [if_neg c_1, if_neg c_2, if_neg c_17, if_neg c_33, if_neg c_34, if_neg c_35, if_neg c_36, if_neg c_37, if_neg c_38, if_neg c_39, if_neg c_40, if_pos c_41, if_pos c_42, if_neg c_43, if_pos c_45])
                                have hF0 : (fX3_read kn kc kr kt kw ff cv x1 x2).1 = fX3_sided (ff x1.toNatClampNeg) (4607182418800017408 : Int64) (0 : Int32) := by rw [hF]
                                have hF1 : (fX3_read kn kc kr kt kw ff cv x1 x2).2 = (2 : Int32) := by rw [hF]
                                exact W.lret hx hb hr (fun t ht hW => ⟨congrArg (fun z => Outcome.returned (some (Value.long z))) hF0.symm, ⟨g2, WM hP hK hD hKC0 hTC hS ht hW.alike, by rw [hF1]; exact ⟨hg_om, hrs⟩⟩, hS.F ht⟩) (fun q h => hS.2.2 q h) dX3_read_192
                              · refine lv_iconst (v := 1) hx hb dX3_read_184 (by decide) ?_
                                refine lv_goto (tgt := 189) hx hb dX3_read_185 (by decide) ?_
                                refine pc_0 (As := [.int (ff x1.toNatClampNeg), .long (4607182418800017408 : Int64), .int (1 : Int32)]) (rest := []) (r := .long (fX3_sided (ff x1.toNatClampNeg) (4607182418800017408 : Int64) (1 : Int32))) ⟨hx, hb, hml, hown, hts⟩ (c_X3_sided l (ff x1.toNatClampNeg) (4607182418800017408 : Int64) (1 : Int32)) (va_cwS 3 hts gX3_read_X3_sided rfl rfl rfl hd_X3_sided ⟨Nat.le_of_ble_eq_true rfl, Nat.le_of_ble_eq_true rfl⟩) rfl hl.1 rfl (lv_room (Nat.le_of_ble_eq_true rfl)) dX3_read_189 ⟨Nat.le_of_ble_eq_true rfl, Nat.le_of_ble_eq_true rfl⟩ ?_
                                have hF : fX3_read kn kc kr kt kw ff cv x1 x2 = (fX3_sided (ff x1.toNatClampNeg) (4607182418800017408 : Int64) (1 : Int32), (2 : Int32)) := (by subst e_v42_32; unfold fX3_read; dsimp only; rw [if_neg c_1, if_neg c_2, if_neg c_17, if_neg c_33, if_neg c_34, if_neg c_35, if_neg c_36, if_neg c_37, if_neg c_38, if_neg c_39, if_neg c_40, if_pos c_41, if_pos c_42, if_neg c_43, if_neg c_45])
                                have hF0 : (fX3_read kn kc kr kt kw ff cv x1 x2).1 = fX3_sided (ff x1.toNatClampNeg) (4607182418800017408 : Int64) (1 : Int32) := by rw [hF]
                                have hF1 : (fX3_read kn kc kr kt kw ff cv x1 x2).2 = (2 : Int32) := by rw [hF]
                                exact W.lret hx hb hr (fun t ht hW => ⟨congrArg (fun z => Outcome.returned (some (Value.long z))) hF0.symm, ⟨g2, WM hP hK hD hKC0 hTC hS ht hW.alike, by rw [hF1]; exact ⟨hg_om, hrs⟩⟩, hS.F ht⟩) (fun q h => hS.2.2 q h) dX3_read_192
                          · refine lv_lload hx hb dX3_read_158 (lv_at hl 0 rfl) ?_
                            refine lv_goto (tgt := 192) hx hb dX3_read_160 (by decide) ?_
                            have hF : fX3_read kn kc kr kt kw ff cv x1 x2 = (v42_32, (2 : Int32)) := (by subst e_v42_32; unfold fX3_read; dsimp only; rw [if_neg c_1, if_neg c_2, if_neg c_17, if_neg c_33, if_neg c_34, if_neg c_35, if_neg c_36, if_neg c_37, if_neg c_38, if_neg c_39, if_neg c_40, if_pos c_41, if_neg c_42])
                            have hF0 : (fX3_read kn kc kr kt kw ff cv x1 x2).1 = v42_32 := by rw [hF]
                            have hF1 : (fX3_read kn kc kr kt kw ff cv x1 x2).2 = (2 : Int32) := by rw [hF]
                            exact W.lret hx hb hr (fun t ht hW => ⟨congrArg (fun z => Outcome.returned (some (Value.long z))) hF0.symm, ⟨g2, WM hP hK hD hKC0 hTC hS ht hW.alike, by rw [hF1]; exact ⟨hg_om, hrs⟩⟩, hS.F ht⟩) (fun q h => hS.2.2 q h) dX3_read_192
                        · refine lv_tableOut (tgt := 193) hx hb dX3_read_45 (by have h0 := lv_neT c_33 (a := 0) rfl; have h1 := lv_neT c_34 (a := 1) rfl; have h2 := lv_neT c_35 (a := 2) rfl; have h3 := lv_neT c_36 (a := 3) rfl; have h4 := lv_neT c_37 (a := 4) rfl; have h5 := lv_neT c_38 (a := 5) rfl; have h6 := lv_neT c_39 (a := 6) rfl; have h7 := lv_neT c_40 (a := 7) rfl; have h8 := lv_neT c_41 (a := 8) rfl; omega) (by decide) ?_
                          refine lv_lconst (v := 0) hx hb dX3_read_193 (by decide) ?_
                          have hF : fX3_read kn kc kr kt kw ff cv x1 x2 = ((0 : Int64), (2 : Int32)) := (by subst e_v42_32; unfold fX3_read; dsimp only; rw [if_neg c_1, if_neg c_2, if_neg c_17, if_neg c_33, if_neg c_34, if_neg c_35, if_neg c_36, if_neg c_37, if_neg c_38, if_neg c_39, if_neg c_40, if_neg c_41])
                          have hF0 : (fX3_read kn kc kr kt kw ff cv x1 x2).1 = (0 : Int64) := by rw [hF]
                          have hF1 : (fX3_read kn kc kr kt kw ff cv x1 x2).2 = (2 : Int32) := by rw [hF]
                          exact W.lret hx hb hr (fun t ht hW => ⟨congrArg (fun z => Outcome.returned (some (Value.long z))) hF0.symm, ⟨g2, WM hP hK hD hKC0 hTC hS ht hW.alike, by rw [hF1]; exact ⟨hg_om, hrs⟩⟩, hS.F ht⟩) (fun q h => hS.2.2 q h) dX3_read_194
  · refine lv_lconst (v := 0) hx hb dX3_read_8 (by decide) ?_
    have hF : fX3_read kn kc kr kt kw ff cv x1 x2 = ((0 : Int64), (fX3_isThere kn kc kr kt kw ff cv x1).2) := (by unfold fX3_read; rw [if_pos c_1])
    have hF0 : (fX3_read kn kc kr kt kw ff cv x1 x2).1 = (0 : Int64) := by rw [hF]
    have hF1 : (fX3_read kn kc kr kt kw ff cv x1 x2).2 = (fX3_isThere kn kc kr kt kw ff cv x1).2 := by rw [hF]
    exact W.lret hx hb hr (fun t ht hW => ⟨congrArg (fun z => Outcome.returned (some (Value.long z))) hF0.symm, ⟨g1, WM hP hK hD hKC0 hTC hS ht hW.alike, by rw [hF1]; exact ⟨hg_om, hrs⟩⟩, hS.F ht⟩) (fun q h => hS.2.2 q h) dX3_read_9
def fX3_between (kn : Int32) (kc : Int32) (kr : Int32) (kt : Int32) (kw : Int64) (ff : Nat → Int32) (cv : Nat → Int64) (x1 : Int32) (x2 : Int32) (x3 : Int32) : Int64 × Int32 :=
  if ((fX3_isThere kn kc kr kt kw ff cv x1).1) = 0 then
    ((0 : Int64), (fX3_isThere kn kc kr kt kw ff cv x1).2)
  else
    if ((fX3_isThere kn kc kr ((fX3_isThere kn kc kr kt kw ff cv x1).2) kw ff cv x2).1) = 0 then
      ((0 : Int64), (fX3_isThere kn kc kr ((fX3_isThere kn kc kr kt kw ff cv x1).2) kw ff cv x2).2)
    else
      if (ff x1.toNatClampNeg) = (ff x2.toNatClampNeg) then
        if x3 < 0 then
          ((0 : Int64), (2 : Int32))
        else
          if x3 ≤ (3 : Int32) then
            let v74_6 : Int64 := fX3_get kn kc kr (0 : Int32) kw ff cv x1 (2 : Int32)
            let v82_7 : Int64 := fX3_get kn kc kr (0 : Int32) kw ff cv x2 (2 : Int32)
            if (fX3_rank (ff x1.toNatClampNeg) v82_7) ≤ (fX3_rank (ff x1.toNatClampNeg) v74_6) then
              if x3 = 0 then
                (v82_7, (0 : Int32))
              else
                if x3 = 1 then
                  (v74_6, (0 : Int32))
                else
                  if x3 = 2 then
                    if (fX3_sizeOf (ff x1.toNatClampNeg) v82_7) ≤ (fX3_sizeOf (ff x1.toNatClampNeg) v74_6) then
                      (fX3_sizeOf (ff x1.toNatClampNeg) v82_7, (0 : Int32))
                    else
                      (fX3_sizeOf (ff x1.toNatClampNeg) v74_6, (0 : Int32))
                  else
                    if (fX3_sizeOf (ff x1.toNatClampNeg) v82_7) ≤ (fX3_sizeOf (ff x1.toNatClampNeg) v74_6) then
                      (fX3_sizeOf (ff x1.toNatClampNeg) v74_6, (0 : Int32))
                    else
                      (fX3_sizeOf (ff x1.toNatClampNeg) v82_7, (0 : Int32))
            else
              if x3 = 0 then
                (v74_6, (0 : Int32))
              else
                if x3 = 1 then
                  (v82_7, (0 : Int32))
                else
                  if x3 = 2 then
                    if (fX3_sizeOf (ff x1.toNatClampNeg) v82_7) ≤ (fX3_sizeOf (ff x1.toNatClampNeg) v74_6) then
                      (fX3_sizeOf (ff x1.toNatClampNeg) v82_7, (0 : Int32))
                    else
                      (fX3_sizeOf (ff x1.toNatClampNeg) v74_6, (0 : Int32))
                  else
                    if (fX3_sizeOf (ff x1.toNatClampNeg) v82_7) ≤ (fX3_sizeOf (ff x1.toNatClampNeg) v74_6) then
                      (fX3_sizeOf (ff x1.toNatClampNeg) v74_6, (0 : Int32))
                    else
                      (fX3_sizeOf (ff x1.toNatClampNeg) v82_7, (0 : Int32))
          else
            ((0 : Int64), (2 : Int32))
      else
        ((0 : Int64), (2 : Int32))
theorem hd_X3_between : yX3_between.cls = RX3 ∧ yX3_between.cls ≠ "java/lang/invoke/MethodHandle" ∧ yX3_between.cls ≠ "java/lang/invoke/VarHandle" ∧ (parseMethodDescriptor yX3_between.desc).map (fun d => d.parameters.length) = some 3 := by decide +kernel
theorem hin_X3_X3_between : ∀ w ∈ wsX30, w ∈ wsX3_between := by decide +kernel
set_option maxHeartbeats 1000000 in
set_option maxRecDepth 100000 in
theorem c_X3_between (l : Launch) {cyJ : ClassId} {cyZ : ClassId} (D : va_G) (tys : List (ClassId × FieldType)) (ad : Nat → Nat) (L : List Nat) (g : Nat → va_E) (om fz cj : Nat) (kn : Int32) (kc : Int32) (kr : Int32) (kt : Int32) (kw : Int64) (ff : Nat → Int32) (cv : Nat → Int64) (x1 : Int32) (x2 : Int32) (x3 : Int32) (hL_om : om ∈ L) (hL_fz : fz ∈ L) (hL_cj : cj ∈ L) (hg_om : g om = .inr (3, [.ref fz, .ref cj, .int kn, .int kc, .int kr, .int kt, .long kw])) (hg_fz : g fz = .inl (cyZ, 8, .inl ff)) (hg_cj : g cj = .inl (cyJ, 56, .inr (.inl cv))) (ne_fz_om : fz ≠ om) (ne_cj_om : cj ≠ om) (htJ : tys[0]? = some (cyJ, .long)) (htZ : tys[1]? = some (cyZ, .boolean)) (hkn : 0 ≤ kn ∧ kn ≤ 8) : Met l yX3_between wsX3_between ({ frames := 2, cells := 0, slots := 0, locals := 44 }) (PW D tys ad L g [.ref om, .int x1, .int x2, .int x3]) (QE D tys ad L (some (.long ((fX3_between kn kc kr kt kw ff cv x1 x2 x3).1))) (fun g1 => g1 om = .inr (3, [.ref fz, .ref cj, .int kn, .int kc, .int kr, .int ((fX3_between kn kc kr kt kw ff cv x1 x2 x3).2), .long kw]) ∧ ∀ q : Nat, q ≠ om → g1 q = g q)) 0 0 (fun q => q ∈ L) := by
  refine Met.ofW (cc := cX3_between) (maxL := 14) (ret := (some .long)) (by decide) rfl ?_
  intro p e s m args below meth c s₁ B hml hv
  obtain ⟨rfl, ⟨hP, hK, hD0, hKC0, hTC⟩, hXN⟩ := hv
  have hP0 := hP
  have hD : va_D (fun q => q ∈ L) (va_pl L g) := we_D (fun _ h => h) hD0
  have hKC : KC ad (fun q => q ∈ L) s s.heap := hKC0.narrow (fun _ h => Or.inl h)
  have hS : va_S (fun q => q ∈ L) s.heap s.heap [] := va_S.rf
  have hx := B.exec
  have hb := B.bytes
  have hr := B.returns
  have hts := atoms_spec (ws := wsX3_between) B.pre
  have hown : s.vm.findClass RX3 = some m.cls := findClass_of_methodNamed B.named
  have hlocks := B.notSynchronized
  have hrs : ∀ q : Nat, q ≠ om → g q = g q := fun q _ => rfl
  have hl := lv_entry ([.ref om, .int x1, .int x2, .int x3]) (n := 14) (Nat.le_of_ble_eq_true rfl)
  rw [lg_entry_eq]
  generalize (lg_sl ([.ref om, .int x1, .int x2, .int x3]) ++ List.replicate (14 - (lg_sl ([.ref om, .int x1, .int x2, .int x3])).length) Slot.unset).toArray = ls at hl ⊢
  have hl : lv_has ls 14 [(0, .ref om), (1, .int x1), (2, .int x2), (3, .int x3)] := hl
  refine lv_aload_n hx hb dX3_between_0 rfl (lv_at hl 0 rfl) ?_
  refine lv_iload_n hx hb dX3_between_1 rfl (lv_at hl 1 rfl) ?_
  refine mc_V (b := om) (As := [.int x1]) (rest := []) ⟨hx, hb, hml, hown, hts⟩ (c_X3_isThere l D tys ad L g  om fz cj kn kc kr kt kw ff cv x1 hL_om hL_fz hL_cj hg_om hg_fz hg_cj ne_fz_om ne_cj_om htJ htZ) (cwV 1 hts gX3_between_X3_isThere rfl rfl rfl hd_X3_isThere ⟨Nat.le_of_ble_eq_true rfl, Nat.le_of_ble_eq_true rfl⟩) (pg_recv hK hP hL_om hg_om rfl) (fun U hU hvm => WM hP hK hD hKC0 hTC hS hU hvm) hXN hS (fun _ h => h) rfl hl.1 rfl (lv_room (Nat.le_of_ble_eq_true rfl)) dX3_between_2 ⟨Nat.le_of_ble_eq_true rfl, Nat.le_of_ble_eq_true rfl⟩ (fun g1 H locs hp9 hP hD hS => ?_)
  refine W.eq (g2 := F0 m 5 ls [.int ((fX3_isThere kn kc kr kt kw ff cv x1).1)]) rfl ?_
  obtain ⟨hn9_om, hr9⟩ := hp9
  have hg_om : g1 om = .inr (3, [.ref fz, .ref cj, .int kn, .int kc, .int kr, .int ((fX3_isThere kn kc kr kt kw ff cv x1).2), .long kw]) := hn9_om
  have hg_fz : g1 fz = .inl (cyZ, 8, .inl ff) := (hr9 fz ne_fz_om).trans hg_fz
  have hg_cj : g1 cj = .inl (cyJ, 56, .inr (.inl cv)) := (hr9 cj ne_cj_om).trans hg_cj
  have hrs : ∀ q : Nat, q ≠ om → g1 q = g q := fun q h_om => (hr9 q h_om).trans (hrs q h_om)
  refine lv_if_eq (tgt := 16) hx hb dX3_between_5 (by decide) (fun c_1 => ?_) (fun c_1 => ?_)
  · refine lv_lconst (v := 0) hx hb dX3_between_16 (by decide) ?_
    have hF : fX3_between kn kc kr kt kw ff cv x1 x2 x3 = ((0 : Int64), (fX3_isThere kn kc kr kt kw ff cv x1).2) := (by unfold fX3_between; rw [if_pos c_1])
    have hF0 : (fX3_between kn kc kr kt kw ff cv x1 x2 x3).1 = (0 : Int64) := by rw [hF]
    have hF1 : (fX3_between kn kc kr kt kw ff cv x1 x2 x3).2 = (fX3_isThere kn kc kr kt kw ff cv x1).2 := by rw [hF]
    exact W.lret hx hb hr (fun t ht hW => ⟨congrArg (fun z => Outcome.returned (some (Value.long z))) hF0.symm, ⟨g1, WM hP hK hD hKC0 hTC hS ht hW.alike, by rw [hF1]; exact ⟨hg_om, hrs⟩⟩, hS.F ht⟩) (fun q h => hS.2.2 q h) dX3_between_17
  · refine lv_aload_n hx hb dX3_between_8 rfl (lv_at hl 0 rfl) ?_
    refine lv_iload_n hx hb dX3_between_9 rfl (lv_at hl 2 rfl) ?_
    refine mc_V (b := om) (As := [.int x2]) (rest := []) ⟨hx, hb, hml, hown, hts⟩ (c_X3_isThere l D tys ad L g1  om fz cj kn kc kr ((fX3_isThere kn kc kr kt kw ff cv x1).2) kw ff cv x2 hL_om hL_fz hL_cj hg_om hg_fz hg_cj ne_fz_om ne_cj_om htJ htZ) (cwV 1 hts gX3_between_X3_isThere rfl rfl rfl hd_X3_isThere ⟨Nat.le_of_ble_eq_true rfl, Nat.le_of_ble_eq_true rfl⟩) (pg_recv hK hP hL_om hg_om rfl) (fun U hU hvm => WM hP hK hD hKC0 hTC hS hU hvm) hXN hS (fun _ h => h) rfl hl.1 rfl (lv_room (Nat.le_of_ble_eq_true rfl)) dX3_between_10 ⟨Nat.le_of_ble_eq_true rfl, Nat.le_of_ble_eq_true rfl⟩ (fun g2 H locs hp9 hP hD hS => ?_)
    refine W.eq (g2 := F0 m 13 ls [.int ((fX3_isThere kn kc kr ((fX3_isThere kn kc kr kt kw ff cv x1).2) kw ff cv x2).1)]) rfl ?_
    obtain ⟨hn9_om, hr9⟩ := hp9
    have hg_om : g2 om = .inr (3, [.ref fz, .ref cj, .int kn, .int kc, .int kr, .int ((fX3_isThere kn kc kr ((fX3_isThere kn kc kr kt kw ff cv x1).2) kw ff cv x2).2), .long kw]) := hn9_om
    have hg_fz : g2 fz = .inl (cyZ, 8, .inl ff) := (hr9 fz ne_fz_om).trans hg_fz
    have hg_cj : g2 cj = .inl (cyJ, 56, .inr (.inl cv)) := (hr9 cj ne_cj_om).trans hg_cj
    have hrs : ∀ q : Nat, q ≠ om → g2 q = g q := fun q h_om => (hr9 q h_om).trans (hrs q h_om)
    refine lv_if_ne (tgt := 18) hx hb dX3_between_13 (by decide) (fun c_2 => ?_) (fun c_2 => ?_)
    · refine lv_aload_n hx hb dX3_between_18 rfl (lv_at hl 0 rfl) ?_
      refine lv_aload_n hx hb dX3_between_19 rfl (lv_at hl 0 rfl) ?_
      refine pg_get hx hb hts hin_X3_X3_between hown hK hP hL_om hg_om rfl 0 (by decide) (hts (.fieldLink RX3 7 "NeedleBoardModel" "isFine" "[Z") (by decide +kernel)) rfl dX3_between_20 ?_
      refine lv_iload_n hx hb dX3_between_23 rfl (lv_at hl 1 rfl) ?_
      refine pg_zald hx hb hK hP 1 hL_fz hg_fz htZ (it_in hkn c_1) dX3_between_24 ?_
      refine lv_aload_n hx hb dX3_between_25 rfl (lv_at hl 0 rfl) ?_
      refine pg_get hx hb hts hin_X3_X3_between hown hK hP hL_om hg_om rfl 0 (by decide) (hts (.fieldLink RX3 7 "NeedleBoardModel" "isFine" "[Z") (by decide +kernel)) rfl dX3_between_26 ?_
      refine lv_iload_n hx hb dX3_between_29 rfl (lv_at hl 2 rfl) ?_
      refine pg_zald hx hb hK hP 1 hL_fz hg_fz htZ (it_in hkn c_2) dX3_between_30 ?_
      refine lv_icmp_ne (tgt := 43) hx hb dX3_between_31 (by decide) (fun c_3 => ?_) (fun c_3 => ?_)
      · refine lv_iconst (v := 2) hx hb dX3_between_43 (by decide) ?_
        refine lv_goto (tgt := 48) hx hb dX3_between_44 (by decide) ?_
        refine pg_put (ty := .int) hx hb hts hin_X3_X3_between tyX3 tyX3_ok nmX3 hown hK hP hD hS hL_om hg_om rfl 5 (by decide) (hts (.fieldLink RX3 17 "NeedleBoardModel" "thrown" "I") (by decide +kernel)) rfl (by decide +kernel) rfl rfl (Nat.le_of_ble_eq_true rfl) dX3_between_48 (fun H locs hP hD hS => ?_)
        obtain ⟨g3, eg3⟩ : ∃ z : Nat → va_E, z = va_up g2 om (.inr (3, [.ref fz, .ref cj, .int kn, .int kc, .int kr, .int (2 : Int32), .long kw])) := ⟨_, rfl⟩
        have hP : va_P D vwCl (va_pl L g3) H := by rw [eg3]; exact hP
        have hD : va_D (fun q => q ∈ L) (va_pl L g3) := by rw [eg3]; exact hD
        have hg_om : g3 om = .inr (3, [.ref fz, .ref cj, .int kn, .int kc, .int kr, .int (2 : Int32), .long kw]) := by rw [eg3]; exact va_up_self _ _ _
        have hg_fz : g3 fz = .inl (cyZ, 8, .inl ff) := (congrFun eg3 fz).trans ((va_up_ne _ _ ne_fz_om).trans hg_fz)
        have hg_cj : g3 cj = .inl (cyJ, 56, .inr (.inl cv)) := (congrFun eg3 cj).trans ((va_up_ne _ _ ne_cj_om).trans hg_cj)
        have hrs : ∀ q : Nat, q ≠ om → g3 q = g q := fun q h_om => (congrFun eg3 q).trans ((va_up_ne _ _ h_om).trans (hrs q h_om))
        refine lv_aload_n hx hb dX3_between_51 rfl (lv_at hl 0 rfl) ?_
        refine pg_get hx hb hts hin_X3_X3_between hown hK hP hL_om hg_om rfl 5 (by decide) (hts (.fieldLink RX3 17 "NeedleBoardModel" "thrown" "I") (by decide +kernel)) rfl dX3_between_52 ?_
        refine lv_if_le (tgt := 60) hx hb dX3_between_55 (by decide) (fun h9 => absurd h9 (by decide)) (fun _ => ?_)
        refine lv_lconst (v := 0) hx hb dX3_between_58 (by decide) ?_
        have hF : fX3_between kn kc kr kt kw ff cv x1 x2 x3 = ((0 : Int64), (2 : Int32)) := (by unfold fX3_between; rw [if_neg c_1, if_neg c_2, if_neg c_3])
        have hF0 : (fX3_between kn kc kr kt kw ff cv x1 x2 x3).1 = (0 : Int64) := by rw [hF]
        have hF1 : (fX3_between kn kc kr kt kw ff cv x1 x2 x3).2 = (2 : Int32) := by rw [hF]
        exact W.lret hx hb hr (fun t ht hW => ⟨congrArg (fun z => Outcome.returned (some (Value.long z))) hF0.symm, ⟨g3, WM hP hK hD hKC0 hTC hS ht hW.alike, by rw [hF1]; exact ⟨hg_om, hrs⟩⟩, hS.F ht⟩) (fun q h => hS.2.2 q h) dX3_between_59
      · refine lv_iload_n hx hb dX3_between_34 rfl (lv_at hl 3 rfl) ?_
        refine lv_if_lt (tgt := 43) hx hb dX3_between_35 (by decide) (fun c_4 => ?_) (fun c_4 => ?_)
        · refine lv_iconst (v := 2) hx hb dX3_between_43 (by decide) ?_
          refine lv_goto (tgt := 48) hx hb dX3_between_44 (by decide) ?_
          refine pg_put (ty := .int) hx hb hts hin_X3_X3_between tyX3 tyX3_ok nmX3 hown hK hP hD hS hL_om hg_om rfl 5 (by decide) (hts (.fieldLink RX3 17 "NeedleBoardModel" "thrown" "I") (by decide +kernel)) rfl (by decide +kernel) rfl rfl (Nat.le_of_ble_eq_true rfl) dX3_between_48 (fun H locs hP hD hS => ?_)
          obtain ⟨g3, eg3⟩ : ∃ z : Nat → va_E, z = va_up g2 om (.inr (3, [.ref fz, .ref cj, .int kn, .int kc, .int kr, .int (2 : Int32), .long kw])) := ⟨_, rfl⟩
          have hP : va_P D vwCl (va_pl L g3) H := by rw [eg3]; exact hP
          have hD : va_D (fun q => q ∈ L) (va_pl L g3) := by rw [eg3]; exact hD
          have hg_om : g3 om = .inr (3, [.ref fz, .ref cj, .int kn, .int kc, .int kr, .int (2 : Int32), .long kw]) := by rw [eg3]; exact va_up_self _ _ _
          have hg_fz : g3 fz = .inl (cyZ, 8, .inl ff) := (congrFun eg3 fz).trans ((va_up_ne _ _ ne_fz_om).trans hg_fz)
          have hg_cj : g3 cj = .inl (cyJ, 56, .inr (.inl cv)) := (congrFun eg3 cj).trans ((va_up_ne _ _ ne_cj_om).trans hg_cj)
          have hrs : ∀ q : Nat, q ≠ om → g3 q = g q := fun q h_om => (congrFun eg3 q).trans ((va_up_ne _ _ h_om).trans (hrs q h_om))
          refine lv_aload_n hx hb dX3_between_51 rfl (lv_at hl 0 rfl) ?_
          refine pg_get hx hb hts hin_X3_X3_between hown hK hP hL_om hg_om rfl 5 (by decide) (hts (.fieldLink RX3 17 "NeedleBoardModel" "thrown" "I") (by decide +kernel)) rfl dX3_between_52 ?_
          refine lv_if_le (tgt := 60) hx hb dX3_between_55 (by decide) (fun h9 => absurd h9 (by decide)) (fun _ => ?_)
          refine lv_lconst (v := 0) hx hb dX3_between_58 (by decide) ?_
          have hF : fX3_between kn kc kr kt kw ff cv x1 x2 x3 = ((0 : Int64), (2 : Int32)) := (by unfold fX3_between; rw [if_neg c_1, if_neg c_2, if_pos c_3, if_pos c_4])
          have hF0 : (fX3_between kn kc kr kt kw ff cv x1 x2 x3).1 = (0 : Int64) := by rw [hF]
          have hF1 : (fX3_between kn kc kr kt kw ff cv x1 x2 x3).2 = (2 : Int32) := by rw [hF]
          exact W.lret hx hb hr (fun t ht hW => ⟨congrArg (fun z => Outcome.returned (some (Value.long z))) hF0.symm, ⟨g3, WM hP hK hD hKC0 hTC hS ht hW.alike, by rw [hF1]; exact ⟨hg_om, hrs⟩⟩, hS.F ht⟩) (fun q h => hS.2.2 q h) dX3_between_59
        · refine lv_iload_n hx hb dX3_between_38 rfl (lv_at hl 3 rfl) ?_
          refine lv_iconst (v := 3) hx hb dX3_between_39 (by decide) ?_
          refine lv_icmp_le (tgt := 47) hx hb dX3_between_40 (by decide) (fun c_5 => ?_) (fun c_5 => ?_)
          · refine lv_iconst (v := 0) hx hb dX3_between_47 (by decide) ?_
            refine pg_put (ty := .int) hx hb hts hin_X3_X3_between tyX3 tyX3_ok nmX3 hown hK hP hD hS hL_om hg_om rfl 5 (by decide) (hts (.fieldLink RX3 17 "NeedleBoardModel" "thrown" "I") (by decide +kernel)) rfl (by decide +kernel) rfl rfl (Nat.le_of_ble_eq_true rfl) dX3_between_48 (fun H locs hP hD hS => ?_)
            obtain ⟨g3, eg3⟩ : ∃ z : Nat → va_E, z = va_up g2 om (.inr (3, [.ref fz, .ref cj, .int kn, .int kc, .int kr, .int (0 : Int32), .long kw])) := ⟨_, rfl⟩
            have hP : va_P D vwCl (va_pl L g3) H := by rw [eg3]; exact hP
            have hD : va_D (fun q => q ∈ L) (va_pl L g3) := by rw [eg3]; exact hD
            have hg_om : g3 om = .inr (3, [.ref fz, .ref cj, .int kn, .int kc, .int kr, .int (0 : Int32), .long kw]) := by rw [eg3]; exact va_up_self _ _ _
            have hg_fz : g3 fz = .inl (cyZ, 8, .inl ff) := (congrFun eg3 fz).trans ((va_up_ne _ _ ne_fz_om).trans hg_fz)
            have hg_cj : g3 cj = .inl (cyJ, 56, .inr (.inl cv)) := (congrFun eg3 cj).trans ((va_up_ne _ _ ne_cj_om).trans hg_cj)
            have hrs : ∀ q : Nat, q ≠ om → g3 q = g q := fun q h_om => (congrFun eg3 q).trans ((va_up_ne _ _ h_om).trans (hrs q h_om))
            refine lv_aload_n hx hb dX3_between_51 rfl (lv_at hl 0 rfl) ?_
            refine pg_get hx hb hts hin_X3_X3_between hown hK hP hL_om hg_om rfl 5 (by decide) (hts (.fieldLink RX3 17 "NeedleBoardModel" "thrown" "I") (by decide +kernel)) rfl dX3_between_52 ?_
            refine lv_if_le (tgt := 60) hx hb dX3_between_55 (by decide) (fun _ => ?_) (fun h9 => absurd h9 (by decide))
            refine lv_aload_n hx hb dX3_between_60 rfl (lv_at hl 0 rfl) ?_
            refine pg_get hx hb hts hin_X3_X3_between hown hK hP hL_om hg_om rfl 0 (by decide) (hts (.fieldLink RX3 7 "NeedleBoardModel" "isFine" "[Z") (by decide +kernel)) rfl dX3_between_61 ?_
            refine lv_iload_n hx hb dX3_between_64 rfl (lv_at hl 1 rfl) ?_
            refine pg_zald hx hb hK hP 1 hL_fz hg_fz htZ (it_in hkn c_1) dX3_between_65 ?_
            refine lv_istore (lv' := [(4, .int (ff x1.toNatClampNeg)), (0, .ref om), (1, .int x1), (2, .int x2), (3, .int x3)]) hx hb dX3_between_66 hl (by decide) rfl (fun ls hl => ?_)
            refine lv_aload_n hx hb dX3_between_68 rfl (lv_at hl 1 rfl) ?_
            refine lv_iload_n hx hb dX3_between_69 rfl (lv_at hl 2 rfl) ?_
            refine lv_iconst (v := 2) hx hb dX3_between_70 (by decide) ?_
            refine rc_V (b := om) (r := .long (fX3_get kn kc kr (0 : Int32) kw ff cv x1 (2 : Int32))) (As := [.int x1, .int (2 : Int32)]) (rest := []) ⟨hx, hb, hml, hown, hts⟩ (c_X3_get l D tys ad L g3  om fz cj kn kc kr (0 : Int32) kw ff cv x1 (2 : Int32) hL_om hL_fz hL_cj hg_om hg_fz hg_cj htJ htZ (ix_in (it_in hkn c_1) (by unfold vp_in; decide))) (cwV 2 hts gX3_between_X3_get rfl rfl rfl hd_X3_get ⟨Nat.le_of_ble_eq_true rfl, Nat.le_of_ble_eq_true rfl⟩) (pg_recv hK hP hL_om hg_om rfl) (fun U hU hvm => WM hP hK hD hKC0 hTC hS hU hvm) hXN rfl hl.1 rfl (lv_room (Nat.le_of_ble_eq_true rfl)) dX3_between_71 ⟨Nat.le_of_ble_eq_true rfl, Nat.le_of_ble_eq_true rfl⟩ ?_
            refine lv_topl (fun v74_6 e_v74_6 => ?_)
            refine lv_lstore (lv' := [(5, .long v74_6), (4, .int (ff x1.toNatClampNeg)), (0, .ref om), (1, .int x1), (2, .int x2), (3, .int x3)]) hx hb dX3_between_74 hl (by decide) rfl (fun ls hl => ?_)
            refine lv_aload_n hx hb dX3_between_76 rfl (lv_at hl 2 rfl) ?_
            refine lv_iload_n hx hb dX3_between_77 rfl (lv_at hl 4 rfl) ?_
            refine lv_iconst (v := 2) hx hb dX3_between_78 (by decide) ?_
            refine rc_V (b := om) (r := .long (fX3_get kn kc kr (0 : Int32) kw ff cv x2 (2 : Int32))) (As := [.int x2, .int (2 : Int32)]) (rest := []) ⟨hx, hb, hml, hown, hts⟩ (c_X3_get l D tys ad L g3  om fz cj kn kc kr (0 : Int32) kw ff cv x2 (2 : Int32) hL_om hL_fz hL_cj hg_om hg_fz hg_cj htJ htZ (ix_in (it_in hkn c_2) (by unfold vp_in; decide))) (cwV 2 hts gX3_between_X3_get rfl rfl rfl hd_X3_get ⟨Nat.le_of_ble_eq_true rfl, Nat.le_of_ble_eq_true rfl⟩) (pg_recv hK hP hL_om hg_om rfl) (fun U hU hvm => WM hP hK hD hKC0 hTC hS hU hvm) hXN rfl hl.1 rfl (lv_room (Nat.le_of_ble_eq_true rfl)) dX3_between_79 ⟨Nat.le_of_ble_eq_true rfl, Nat.le_of_ble_eq_true rfl⟩ ?_
            refine lv_topl (fun v82_7 e_v82_7 => ?_)
            refine lv_lstore (lv' := [(7, .long v82_7), (5, .long v74_6), (4, .int (ff x1.toNatClampNeg)), (0, .ref om), (1, .int x1), (2, .int x2), (3, .int x3)]) hx hb dX3_between_82 hl (by decide) rfl (fun ls hl => ?_)
            refine lv_iload hx hb dX3_between_84 (lv_at hl 2 rfl) ?_
            refine lv_lload hx hb dX3_between_86 (lv_at hl 1 rfl) ?_
            refine pc_0 (As := [.int (ff x1.toNatClampNeg), .long v74_6]) (rest := []) (r := .long (fX3_sizeOf (ff x1.toNatClampNeg) v74_6)) ⟨hx, hb, hml, hown, hts⟩ (c_X3_sizeOf l (ff x1.toNatClampNeg) v74_6) (va_cwS 2 hts gX3_between_X3_sizeOf rfl rfl rfl hd_X3_sizeOf ⟨Nat.le_of_ble_eq_true rfl, Nat.le_of_ble_eq_true rfl⟩) rfl hl.1 rfl (lv_room (Nat.le_of_ble_eq_true rfl)) dX3_between_88 ⟨Nat.le_of_ble_eq_true rfl, Nat.le_of_ble_eq_true rfl⟩ ?_
            refine lv_lstore (lv' := [(9, .long (fX3_sizeOf (ff x1.toNatClampNeg) v74_6)), (7, .long v82_7), (5, .long v74_6), (4, .int (ff x1.toNatClampNeg)), (0, .ref om), (1, .int x1), (2, .int x2), (3, .int x3)]) hx hb dX3_between_91 hl (by decide) rfl (fun ls hl => ?_)
            refine lv_iload hx hb dX3_between_93 (lv_at hl 3 rfl) ?_
            refine lv_lload hx hb dX3_between_95 (lv_at hl 1 rfl) ?_
            refine pc_0 (As := [.int (ff x1.toNatClampNeg), .long v82_7]) (rest := []) (r := .long (fX3_sizeOf (ff x1.toNatClampNeg) v82_7)) ⟨hx, hb, hml, hown, hts⟩ (c_X3_sizeOf l (ff x1.toNatClampNeg) v82_7) (va_cwS 2 hts gX3_between_X3_sizeOf rfl rfl rfl hd_X3_sizeOf ⟨Nat.le_of_ble_eq_true rfl, Nat.le_of_ble_eq_true rfl⟩) rfl hl.1 rfl (lv_room (Nat.le_of_ble_eq_true rfl)) dX3_between_97 ⟨Nat.le_of_ble_eq_true rfl, Nat.le_of_ble_eq_true rfl⟩ ?_
            refine lv_lstore (lv' := [(11, .long (fX3_sizeOf (ff x1.toNatClampNeg) v82_7)), (9, .long (fX3_sizeOf (ff x1.toNatClampNeg) v74_6)), (7, .long v82_7), (5, .long v74_6), (4, .int (ff x1.toNatClampNeg)), (0, .ref om), (1, .int x1), (2, .int x2), (3, .int x3)]) hx hb dX3_between_100 hl (by decide) rfl (fun ls hl => ?_)
            refine lv_iload hx hb dX3_between_102 (lv_at hl 4 rfl) ?_
            refine lv_lload hx hb dX3_between_104 (lv_at hl 3 rfl) ?_
            refine pc_0 (As := [.int (ff x1.toNatClampNeg), .long v74_6]) (rest := []) (r := .long (fX3_rank (ff x1.toNatClampNeg) v74_6)) ⟨hx, hb, hml, hown, hts⟩ (c_X3_rank l (ff x1.toNatClampNeg) v74_6) (va_cwS 2 hts gX3_between_X3_rank rfl rfl rfl hd_X3_rank ⟨Nat.le_of_ble_eq_true rfl, Nat.le_of_ble_eq_true rfl⟩) rfl hl.1 rfl (lv_room (Nat.le_of_ble_eq_true rfl)) dX3_between_106 ⟨Nat.le_of_ble_eq_true rfl, Nat.le_of_ble_eq_true rfl⟩ ?_
            refine lv_iload hx hb dX3_between_109 (lv_at hl 4 rfl) ?_
            refine lv_lload hx hb dX3_between_111 (lv_at hl 2 rfl) ?_
            refine pc_0 (As := [.int (ff x1.toNatClampNeg), .long v82_7]) (rest := [.long (fX3_rank (ff x1.toNatClampNeg) v74_6)]) (r := .long (fX3_rank (ff x1.toNatClampNeg) v82_7)) ⟨hx, hb, hml, hown, hts⟩ (c_X3_rank l (ff x1.toNatClampNeg) v82_7) (va_cwS 2 hts gX3_between_X3_rank rfl rfl rfl hd_X3_rank ⟨Nat.le_of_ble_eq_true rfl, Nat.le_of_ble_eq_true rfl⟩) rfl hl.1 rfl (lv_room (Nat.le_of_ble_eq_true rfl)) dX3_between_113 ⟨Nat.le_of_ble_eq_true rfl, Nat.le_of_ble_eq_true rfl⟩ ?_
            refine pl_ge (tgt := 124) hx hb dX3_between_116 dX3_between_117 (by decide) (fun c_8 => ?_) (fun c_8 => ?_)
            · refine lv_iconst (v := 0) hx hb dX3_between_124 (by decide) ?_
              refine lv_istore (lv' := [(13, .int (0 : Int32)), (11, .long (fX3_sizeOf (ff x1.toNatClampNeg) v82_7)), (9, .long (fX3_sizeOf (ff x1.toNatClampNeg) v74_6)), (7, .long v82_7), (5, .long v74_6), (4, .int (ff x1.toNatClampNeg)), (0, .ref om), (1, .int x1), (2, .int x2), (3, .int x3)]) hx hb dX3_between_125 hl (by decide) rfl (fun ls hl => ?_)
              refine lv_iload_n hx hb dX3_between_127 rfl (lv_at hl 9 rfl) ?_
              by_cases c_9 : x3 = 0
              · refine lv_tableIn (tgt := 156) (off := 28) hx hb dX3_between_128 (by rw [c_9]; decide) (by rw [c_9]; decide) (by rw [c_9]; rfl) (by decide) ?_
                refine lv_iload hx hb dX3_between_156 (lv_at hl 0 rfl) ?_
                refine lv_if_eq (tgt := 166) hx hb dX3_between_158 (by decide) (fun _ => ?_) (fun h9 => absurd h9 (by decide))
                refine lv_lload hx hb dX3_between_166 (lv_at hl 3 rfl) ?_
                have hF : fX3_between kn kc kr kt kw ff cv x1 x2 x3 = (v82_7, (0 : Int32)) := (by subst e_v74_6 e_v82_7; unfold fX3_between; dsimp only; rw [if_neg c_1, if_neg c_2, if_pos c_3, if_neg c_4, if_pos c_5, if_pos c_8, if_pos c_9])
                have hF0 : (fX3_between kn kc kr kt kw ff cv x1 x2 x3).1 = v82_7 := by rw [hF]
                have hF1 : (fX3_between kn kc kr kt kw ff cv x1 x2 x3).2 = (0 : Int32) := by rw [hF]
                exact W.lret hx hb hr (fun t ht hW => ⟨congrArg (fun z => Outcome.returned (some (Value.long z))) hF0.symm, ⟨g3, WM hP hK hD hKC0 hTC hS ht hW.alike, by rw [hF1]; exact ⟨hg_om, hrs⟩⟩, hS.F ht⟩) (fun q h => hS.2.2 q h) dX3_between_168
              · by_cases c_10 : x3 = 1
                · refine lv_tableIn (tgt := 169) (off := 41) hx hb dX3_between_128 (by rw [c_10]; decide) (by rw [c_10]; decide) (by rw [c_10]; rfl) (by decide) ?_
                  refine lv_iload hx hb dX3_between_169 (lv_at hl 0 rfl) ?_
                  refine lv_if_eq (tgt := 179) hx hb dX3_between_171 (by decide) (fun _ => ?_) (fun h9 => absurd h9 (by decide))
                  refine lv_lload hx hb dX3_between_179 (lv_at hl 4 rfl) ?_
                  have hF : fX3_between kn kc kr kt kw ff cv x1 x2 x3 = (v74_6, (0 : Int32)) := (by subst e_v74_6 e_v82_7; unfold fX3_between; dsimp only; rw [if_neg c_1, if_neg c_2, if_pos c_3, if_neg c_4, if_pos c_5, if_pos c_8, if_neg c_9, if_pos c_10])
                  have hF0 : (fX3_between kn kc kr kt kw ff cv x1 x2 x3).1 = v74_6 := by rw [hF]
                  have hF1 : (fX3_between kn kc kr kt kw ff cv x1 x2 x3).2 = (0 : Int32) := by rw [hF]
                  exact W.lret hx hb hr (fun t ht hW => ⟨congrArg (fun z => Outcome.returned (some (Value.long z))) hF0.symm, ⟨g3, WM hP hK hD hKC0 hTC hS ht hW.alike, by rw [hF1]; exact ⟨hg_om, hrs⟩⟩, hS.F ht⟩) (fun q h => hS.2.2 q h) dX3_between_181
                · by_cases c_11 : x3 = 2
                  · refine lv_tableIn (tgt := 182) (off := 54) hx hb dX3_between_128 (by rw [c_11]; decide) (by rw [c_11]; decide) (by rw [c_11]; rfl) (by decide) ?_
                    refine lv_lload hx hb dX3_between_182 (lv_at hl 2 rfl) ?_
                    refine lv_lload hx hb dX3_between_184 (lv_at hl 1 rfl) ?_
                    refine pl_ge (tgt := 195) hx hb dX3_between_186 dX3_between_187 (by decide) (fun c_12 => ?_) (fun c_12 => ?_)
                    · refine lv_lload hx hb dX3_between_195 (lv_at hl 1 rfl) ?_
                      have hF : fX3_between kn kc kr kt kw ff cv x1 x2 x3 = (fX3_sizeOf (ff x1.toNatClampNeg) v82_7, (0 : Int32)) := (by subst e_v74_6 e_v82_7; unfold fX3_between; dsimp only; rw [if_neg c_1, if_neg c_2, if_pos c_3, if_neg c_4, if_pos c_5, if_pos c_8, if_neg c_9, if_neg c_10, if_pos c_11, if_pos c_12])
                      have hF0 : (fX3_between kn kc kr kt kw ff cv x1 x2 x3).1 = fX3_sizeOf (ff x1.toNatClampNeg) v82_7 := by rw [hF]
                      have hF1 : (fX3_between kn kc kr kt kw ff cv x1 x2 x3).2 = (0 : Int32) := by rw [hF]
                      exact W.lret hx hb hr (fun t ht hW => ⟨congrArg (fun z => Outcome.returned (some (Value.long z))) hF0.symm, ⟨g3, WM hP hK hD hKC0 hTC hS ht hW.alike, by rw [hF1]; exact ⟨hg_om, hrs⟩⟩, hS.F ht⟩) (fun q h => hS.2.2 q h) dX3_between_197
                    · refine lv_lload hx hb dX3_between_190 (lv_at hl 2 rfl) ?_
                      refine lv_goto (tgt := 197) hx hb dX3_between_192 (by decide) ?_
                      have hF : fX3_between kn kc kr kt kw ff cv x1 x2 x3 = (fX3_sizeOf (ff x1.toNatClampNeg) v74_6, (0 : Int32)) := (by subst e_v74_6 e_v82_7; unfold fX3_between; dsimp only; rw [if_neg c_1, if_neg c_2, if_pos c_3, if_neg c_4, if_pos c_5, if_pos c_8, if_neg c_9, if_neg c_10, if_pos c_11, if_neg c_12])
                      have hF0 : (fX3_between kn kc kr kt kw ff cv x1 x2 x3).1 = fX3_sizeOf (ff x1.toNatClampNeg) v74_6 := by rw [hF]
                      have hF1 : (fX3_between kn kc kr kt kw ff cv x1 x2 x3).2 = (0 : Int32) := by rw [hF]
                      exact W.lret hx hb hr (fun t ht hW => ⟨congrArg (fun z => Outcome.returned (some (Value.long z))) hF0.symm, ⟨g3, WM hP hK hD hKC0 hTC hS ht hW.alike, by rw [hF1]; exact ⟨hg_om, hrs⟩⟩, hS.F ht⟩) (fun q h => hS.2.2 q h) dX3_between_197
                  · refine lv_tableOut (tgt := 198) hx hb dX3_between_128 (by have h0 := lv_neT c_9 (a := 0) rfl; have h1 := lv_neT c_10 (a := 1) rfl; have h2 := lv_neT c_11 (a := 2) rfl; omega) (by decide) ?_
                    refine lv_lload hx hb dX3_between_198 (lv_at hl 2 rfl) ?_
                    refine lv_lload hx hb dX3_between_200 (lv_at hl 1 rfl) ?_
                    refine pl_ge (tgt := 211) hx hb dX3_between_202 dX3_between_203 (by decide) (fun c_13 => ?_) (fun c_13 => ?_)
                    · refine lv_lload hx hb dX3_between_211 (lv_at hl 2 rfl) ?_
                      have hF : fX3_between kn kc kr kt kw ff cv x1 x2 x3 = (fX3_sizeOf (ff x1.toNatClampNeg) v74_6, (0 : Int32)) := (by subst e_v74_6 e_v82_7; unfold fX3_between; dsimp only; rw [if_neg c_1, if_neg c_2, if_pos c_3, if_neg c_4, if_pos c_5, if_pos c_8, if_neg c_9, if_neg c_10, if_neg c_11, if_pos c_13])
                      have hF0 : (fX3_between kn kc kr kt kw ff cv x1 x2 x3).1 = fX3_sizeOf (ff x1.toNatClampNeg) v74_6 := by rw [hF]
                      have hF1 : (fX3_between kn kc kr kt kw ff cv x1 x2 x3).2 = (0 : Int32) := by rw [hF]
                      exact W.lret hx hb hr (fun t ht hW => ⟨congrArg (fun z => Outcome.returned (some (Value.long z))) hF0.symm, ⟨g3, WM hP hK hD hKC0 hTC hS ht hW.alike, by rw [hF1]; exact ⟨hg_om, hrs⟩⟩, hS.F ht⟩) (fun q h => hS.2.2 q h) dX3_between_213
                    · refine lv_lload hx hb dX3_between_206 (lv_at hl 1 rfl) ?_
                      refine lv_goto (tgt := 213) hx hb dX3_between_208 (by decide) ?_
                      have hF : fX3_between kn kc kr kt kw ff cv x1 x2 x3 = (fX3_sizeOf (ff x1.toNatClampNeg) v82_7, (0 : Int32)) := (by subst e_v74_6 e_v82_7; unfold fX3_between; dsimp only; rw [if_neg c_1, if_neg c_2, if_pos c_3, if_neg c_4, if_pos c_5, if_pos c_8, if_neg c_9, if_neg c_10, if_neg c_11, if_neg c_13])
                      have hF0 : (fX3_between kn kc kr kt kw ff cv x1 x2 x3).1 = fX3_sizeOf (ff x1.toNatClampNeg) v82_7 := by rw [hF]
                      have hF1 : (fX3_between kn kc kr kt kw ff cv x1 x2 x3).2 = (0 : Int32) := by rw [hF]
                      exact W.lret hx hb hr (fun t ht hW => ⟨congrArg (fun z => Outcome.returned (some (Value.long z))) hF0.symm, ⟨g3, WM hP hK hD hKC0 hTC hS ht hW.alike, by rw [hF1]; exact ⟨hg_om, hrs⟩⟩, hS.F ht⟩) (fun q h => hS.2.2 q h) dX3_between_213
            · refine lv_iconst (v := 1) hx hb dX3_between_120 (by decide) ?_
              refine lv_goto (tgt := 125) hx hb dX3_between_121 (by decide) ?_
              refine lv_istore (lv' := [(13, .int (1 : Int32)), (11, .long (fX3_sizeOf (ff x1.toNatClampNeg) v82_7)), (9, .long (fX3_sizeOf (ff x1.toNatClampNeg) v74_6)), (7, .long v82_7), (5, .long v74_6), (4, .int (ff x1.toNatClampNeg)), (0, .ref om), (1, .int x1), (2, .int x2), (3, .int x3)]) hx hb dX3_between_125 hl (by decide) rfl (fun ls hl => ?_)
              refine lv_iload_n hx hb dX3_between_127 rfl (lv_at hl 9 rfl) ?_
              by_cases c_14 : x3 = 0
              · refine lv_tableIn (tgt := 156) (off := 28) hx hb dX3_between_128 (by rw [c_14]; decide) (by rw [c_14]; decide) (by rw [c_14]; rfl) (by decide) ?_
                refine lv_iload hx hb dX3_between_156 (lv_at hl 0 rfl) ?_
                refine lv_if_eq (tgt := 166) hx hb dX3_between_158 (by decide) (fun h9 => absurd h9 (by decide)) (fun _ => ?_)
                refine lv_lload hx hb dX3_between_161 (lv_at hl 4 rfl) ?_
                refine lv_goto (tgt := 168) hx hb dX3_between_163 (by decide) ?_
                have hF : fX3_between kn kc kr kt kw ff cv x1 x2 x3 = (v74_6, (0 : Int32)) := (by subst e_v74_6 e_v82_7; unfold fX3_between; dsimp only; rw [if_neg c_1, if_neg c_2, if_pos c_3, if_neg c_4, if_pos c_5, if_neg c_8, if_pos c_14])
                have hF0 : (fX3_between kn kc kr kt kw ff cv x1 x2 x3).1 = v74_6 := by rw [hF]
                have hF1 : (fX3_between kn kc kr kt kw ff cv x1 x2 x3).2 = (0 : Int32) := by rw [hF]
                exact W.lret hx hb hr (fun t ht hW => ⟨congrArg (fun z => Outcome.returned (some (Value.long z))) hF0.symm, ⟨g3, WM hP hK hD hKC0 hTC hS ht hW.alike, by rw [hF1]; exact ⟨hg_om, hrs⟩⟩, hS.F ht⟩) (fun q h => hS.2.2 q h) dX3_between_168
              · by_cases c_15 : x3 = 1
                · refine lv_tableIn (tgt := 169) (off := 41) hx hb dX3_between_128 (by rw [c_15]; decide) (by rw [c_15]; decide) (by rw [c_15]; rfl) (by decide) ?_
                  refine lv_iload hx hb dX3_between_169 (lv_at hl 0 rfl) ?_
                  refine lv_if_eq (tgt := 179) hx hb dX3_between_171 (by decide) (fun h9 => absurd h9 (by decide)) (fun _ => ?_)
                  refine lv_lload hx hb dX3_between_174 (lv_at hl 3 rfl) ?_
                  refine lv_goto (tgt := 181) hx hb dX3_between_176 (by decide) ?_
                  have hF : fX3_between kn kc kr kt kw ff cv x1 x2 x3 = (v82_7, (0 : Int32)) := (by subst e_v74_6 e_v82_7; unfold fX3_between; dsimp only; rw [if_neg c_1, if_neg c_2, if_pos c_3, if_neg c_4, if_pos c_5, if_neg c_8, if_neg c_14, if_pos c_15])
                  have hF0 : (fX3_between kn kc kr kt kw ff cv x1 x2 x3).1 = v82_7 := by rw [hF]
                  have hF1 : (fX3_between kn kc kr kt kw ff cv x1 x2 x3).2 = (0 : Int32) := by rw [hF]
                  exact W.lret hx hb hr (fun t ht hW => ⟨congrArg (fun z => Outcome.returned (some (Value.long z))) hF0.symm, ⟨g3, WM hP hK hD hKC0 hTC hS ht hW.alike, by rw [hF1]; exact ⟨hg_om, hrs⟩⟩, hS.F ht⟩) (fun q h => hS.2.2 q h) dX3_between_181
                · by_cases c_16 : x3 = 2
                  · refine lv_tableIn (tgt := 182) (off := 54) hx hb dX3_between_128 (by rw [c_16]; decide) (by rw [c_16]; decide) (by rw [c_16]; rfl) (by decide) ?_
                    refine lv_lload hx hb dX3_between_182 (lv_at hl 2 rfl) ?_
                    refine lv_lload hx hb dX3_between_184 (lv_at hl 1 rfl) ?_
                    refine pl_ge (tgt := 195) hx hb dX3_between_186 dX3_between_187 (by decide) (fun c_17 => ?_) (fun c_17 => ?_)
                    · refine lv_lload hx hb dX3_between_195 (lv_at hl 1 rfl) ?_
                      have hF : fX3_between kn kc kr kt kw ff cv x1 x2 x3 = (fX3_sizeOf (ff x1.toNatClampNeg) v82_7, (0 : Int32)) := (by subst e_v74_6 e_v82_7; unfold fX3_between; dsimp only; rw [if_neg c_1, if_neg c_2, if_pos c_3, if_neg c_4, if_pos c_5, if_neg c_8, if_neg c_14, if_neg c_15, if_pos c_16, if_pos c_17])
                      have hF0 : (fX3_between kn kc kr kt kw ff cv x1 x2 x3).1 = fX3_sizeOf (ff x1.toNatClampNeg) v82_7 := by rw [hF]
                      have hF1 : (fX3_between kn kc kr kt kw ff cv x1 x2 x3).2 = (0 : Int32) := by rw [hF]
                      exact W.lret hx hb hr (fun t ht hW => ⟨congrArg (fun z => Outcome.returned (some (Value.long z))) hF0.symm, ⟨g3, WM hP hK hD hKC0 hTC hS ht hW.alike, by rw [hF1]; exact ⟨hg_om, hrs⟩⟩, hS.F ht⟩) (fun q h => hS.2.2 q h) dX3_between_197
                    · refine lv_lload hx hb dX3_between_190 (lv_at hl 2 rfl) ?_
                      refine lv_goto (tgt := 197) hx hb dX3_between_192 (by decide) ?_
                      have hF : fX3_between kn kc kr kt kw ff cv x1 x2 x3 = (fX3_sizeOf (ff x1.toNatClampNeg) v74_6, (0 : Int32)) := (by subst e_v74_6 e_v82_7; unfold fX3_between; dsimp only; rw [if_neg c_1, if_neg c_2, if_pos c_3, if_neg c_4, if_pos c_5, if_neg c_8, if_neg c_14, if_neg c_15, if_pos c_16, if_neg c_17])
                      have hF0 : (fX3_between kn kc kr kt kw ff cv x1 x2 x3).1 = fX3_sizeOf (ff x1.toNatClampNeg) v74_6 := by rw [hF]
                      have hF1 : (fX3_between kn kc kr kt kw ff cv x1 x2 x3).2 = (0 : Int32) := by rw [hF]
                      exact W.lret hx hb hr (fun t ht hW => ⟨congrArg (fun z => Outcome.returned (some (Value.long z))) hF0.symm, ⟨g3, WM hP hK hD hKC0 hTC hS ht hW.alike, by rw [hF1]; exact ⟨hg_om, hrs⟩⟩, hS.F ht⟩) (fun q h => hS.2.2 q h) dX3_between_197
                  · refine lv_tableOut (tgt := 198) hx hb dX3_between_128 (by have h0 := lv_neT c_14 (a := 0) rfl; have h1 := lv_neT c_15 (a := 1) rfl; have h2 := lv_neT c_16 (a := 2) rfl; omega) (by decide) ?_
                    refine lv_lload hx hb dX3_between_198 (lv_at hl 2 rfl) ?_
                    refine lv_lload hx hb dX3_between_200 (lv_at hl 1 rfl) ?_
                    refine pl_ge (tgt := 211) hx hb dX3_between_202 dX3_between_203 (by decide) (fun c_18 => ?_) (fun c_18 => ?_)
                    · refine lv_lload hx hb dX3_between_211 (lv_at hl 2 rfl) ?_
                      have hF : fX3_between kn kc kr kt kw ff cv x1 x2 x3 = (fX3_sizeOf (ff x1.toNatClampNeg) v74_6, (0 : Int32)) := (by subst e_v74_6 e_v82_7; unfold fX3_between; dsimp only; rw [if_neg c_1, if_neg c_2, if_pos c_3, if_neg c_4, if_pos c_5, if_neg c_8, if_neg c_14, if_neg c_15, if_neg c_16, if_pos c_18])
                      have hF0 : (fX3_between kn kc kr kt kw ff cv x1 x2 x3).1 = fX3_sizeOf (ff x1.toNatClampNeg) v74_6 := by rw [hF]
                      have hF1 : (fX3_between kn kc kr kt kw ff cv x1 x2 x3).2 = (0 : Int32) := by rw [hF]
                      exact W.lret hx hb hr (fun t ht hW => ⟨congrArg (fun z => Outcome.returned (some (Value.long z))) hF0.symm, ⟨g3, WM hP hK hD hKC0 hTC hS ht hW.alike, by rw [hF1]; exact ⟨hg_om, hrs⟩⟩, hS.F ht⟩) (fun q h => hS.2.2 q h) dX3_between_213
                    · refine lv_lload hx hb dX3_between_206 (lv_at hl 1 rfl) ?_
                      refine lv_goto (tgt := 213) hx hb dX3_between_208 (by decide) ?_
                      have hF : fX3_between kn kc kr kt kw ff cv x1 x2 x3 = (fX3_sizeOf (ff x1.toNatClampNeg) v82_7, (0 : Int32)) := (by subst e_v74_6 e_v82_7; unfold fX3_between; dsimp only; rw [if_neg c_1, if_neg c_2, if_pos c_3, if_neg c_4, if_pos c_5, if_neg c_8, if_neg c_14, if_neg c_15, if_neg c_16, if_neg c_18])
                      have hF0 : (fX3_between kn kc kr kt kw ff cv x1 x2 x3).1 = fX3_sizeOf (ff x1.toNatClampNeg) v82_7 := by rw [hF]
                      have hF1 : (fX3_between kn kc kr kt kw ff cv x1 x2 x3).2 = (0 : Int32) := by rw [hF]
                      exact W.lret hx hb hr (fun t ht hW => ⟨congrArg (fun z => Outcome.returned (some (Value.long z))) hF0.symm, ⟨g3, WM hP hK hD hKC0 hTC hS ht hW.alike, by rw [hF1]; exact ⟨hg_om, hrs⟩⟩, hS.F ht⟩) (fun q h => hS.2.2 q h) dX3_between_213
          · refine lv_iconst (v := 2) hx hb dX3_between_43 (by decide) ?_
            refine lv_goto (tgt := 48) hx hb dX3_between_44 (by decide) ?_
            refine pg_put (ty := .int) hx hb hts hin_X3_X3_between tyX3 tyX3_ok nmX3 hown hK hP hD hS hL_om hg_om rfl 5 (by decide) (hts (.fieldLink RX3 17 "NeedleBoardModel" "thrown" "I") (by decide +kernel)) rfl (by decide +kernel) rfl rfl (Nat.le_of_ble_eq_true rfl) dX3_between_48 (fun H locs hP hD hS => ?_)
            obtain ⟨g3, eg3⟩ : ∃ z : Nat → va_E, z = va_up g2 om (.inr (3, [.ref fz, .ref cj, .int kn, .int kc, .int kr, .int (2 : Int32), .long kw])) := ⟨_, rfl⟩
            have hP : va_P D vwCl (va_pl L g3) H := by rw [eg3]; exact hP
            have hD : va_D (fun q => q ∈ L) (va_pl L g3) := by rw [eg3]; exact hD
            have hg_om : g3 om = .inr (3, [.ref fz, .ref cj, .int kn, .int kc, .int kr, .int (2 : Int32), .long kw]) := by rw [eg3]; exact va_up_self _ _ _
            have hg_fz : g3 fz = .inl (cyZ, 8, .inl ff) := (congrFun eg3 fz).trans ((va_up_ne _ _ ne_fz_om).trans hg_fz)
            have hg_cj : g3 cj = .inl (cyJ, 56, .inr (.inl cv)) := (congrFun eg3 cj).trans ((va_up_ne _ _ ne_cj_om).trans hg_cj)
            have hrs : ∀ q : Nat, q ≠ om → g3 q = g q := fun q h_om => (congrFun eg3 q).trans ((va_up_ne _ _ h_om).trans (hrs q h_om))
            refine lv_aload_n hx hb dX3_between_51 rfl (lv_at hl 0 rfl) ?_
            refine pg_get hx hb hts hin_X3_X3_between hown hK hP hL_om hg_om rfl 5 (by decide) (hts (.fieldLink RX3 17 "NeedleBoardModel" "thrown" "I") (by decide +kernel)) rfl dX3_between_52 ?_
            refine lv_if_le (tgt := 60) hx hb dX3_between_55 (by decide) (fun h9 => absurd h9 (by decide)) (fun _ => ?_)
            refine lv_lconst (v := 0) hx hb dX3_between_58 (by decide) ?_
            have hF : fX3_between kn kc kr kt kw ff cv x1 x2 x3 = ((0 : Int64), (2 : Int32)) := (by unfold fX3_between; rw [if_neg c_1, if_neg c_2, if_pos c_3, if_neg c_4, if_neg c_5])
            have hF0 : (fX3_between kn kc kr kt kw ff cv x1 x2 x3).1 = (0 : Int64) := by rw [hF]
            have hF1 : (fX3_between kn kc kr kt kw ff cv x1 x2 x3).2 = (2 : Int32) := by rw [hF]
            exact W.lret hx hb hr (fun t ht hW => ⟨congrArg (fun z => Outcome.returned (some (Value.long z))) hF0.symm, ⟨g3, WM hP hK hD hKC0 hTC hS ht hW.alike, by rw [hF1]; exact ⟨hg_om, hrs⟩⟩, hS.F ht⟩) (fun q h => hS.2.2 q h) dX3_between_59
    · refine lv_lconst (v := 0) hx hb dX3_between_16 (by decide) ?_
      have hF : fX3_between kn kc kr kt kw ff cv x1 x2 x3 = ((0 : Int64), (fX3_isThere kn kc kr ((fX3_isThere kn kc kr kt kw ff cv x1).2) kw ff cv x2).2) := (by unfold fX3_between; rw [if_neg c_1, if_pos c_2])
      have hF0 : (fX3_between kn kc kr kt kw ff cv x1 x2 x3).1 = (0 : Int64) := by rw [hF]
      have hF1 : (fX3_between kn kc kr kt kw ff cv x1 x2 x3).2 = (fX3_isThere kn kc kr ((fX3_isThere kn kc kr kt kw ff cv x1).2) kw ff cv x2).2 := by rw [hF]
      exact W.lret hx hb hr (fun t ht hW => ⟨congrArg (fun z => Outcome.returned (some (Value.long z))) hF0.symm, ⟨g2, WM hP hK hD hKC0 hTC hS ht hW.alike, by rw [hF1]; exact ⟨hg_om, hrs⟩⟩, hS.F ht⟩) (fun q h => hS.2.2 q h) dX3_between_17
def fX3_back (kn : Int32) (kc : Int32) (kr : Int32) (kt : Int32) (kw : Int64) (ff : Nat → Int32) (cv : Nat → Int64) (x1 : Int32) : (Nat → Int64) × Int32 :=
  if ((fX3_isThere kn kc kr kt kw ff cv x1).1) = 0 then
    (cv, (fX3_isThere kn kc kr kt kw ff cv x1).2)
  else
    (fX3_fresh kn kc kr ((fX3_isThere kn kc kr kt kw ff cv x1).2) kw ff cv x1, (fX3_isThere kn kc kr kt kw ff cv x1).2)
theorem hd_X3_back : yX3_back.cls = RX3 ∧ yX3_back.cls ≠ "java/lang/invoke/MethodHandle" ∧ yX3_back.cls ≠ "java/lang/invoke/VarHandle" ∧ (parseMethodDescriptor yX3_back.desc).map (fun d => d.parameters.length) = some 1 := by decide +kernel
set_option maxHeartbeats 1000000 in
set_option maxRecDepth 100000 in
theorem c_X3_back (l : Launch) {cyJ : ClassId} {cyZ : ClassId} (D : va_G) (tys : List (ClassId × FieldType)) (ad : Nat → Nat) (L : List Nat) (g : Nat → va_E) (om fz cj : Nat) (kn : Int32) (kc : Int32) (kr : Int32) (kt : Int32) (kw : Int64) (ff : Nat → Int32) (cv : Nat → Int64) (x1 : Int32) (hL_om : om ∈ L) (hL_fz : fz ∈ L) (hL_cj : cj ∈ L) (hg_om : g om = .inr (3, [.ref fz, .ref cj, .int kn, .int kc, .int kr, .int kt, .long kw])) (hg_fz : g fz = .inl (cyZ, 8, .inl ff)) (hg_cj : g cj = .inl (cyJ, 56, .inr (.inl cv))) (ne_om_cj : om ≠ cj) (ne_fz_om : fz ≠ om) (ne_fz_cj : fz ≠ cj) (ne_cj_om : cj ≠ om) (htJ : tys[0]? = some (cyJ, .long)) (htZ : tys[1]? = some (cyZ, .boolean)) (hkn : 0 ≤ kn ∧ kn ≤ 8) : Met l yX3_back wsX3_back ({ frames := 4, cells := 0, slots := 0, locals := 91 }) (PW D tys ad L g [.ref om, .int x1]) (QE D tys ad L none (fun g1 => g1 om = .inr (3, [.ref fz, .ref cj, .int kn, .int kc, .int kr, .int ((fX3_back kn kc kr kt kw ff cv x1).2), .long kw]) ∧ g1 cj = .inl (cyJ, 56, .inr (.inl ((fX3_back kn kc kr kt kw ff cv x1).1))) ∧ ∀ q : Nat, q ≠ om → q ≠ cj → g1 q = g q)) 0 0 (fun q => q ∈ L) := by
  refine Met.ofW (cc := cX3_back) (maxL := 2) (ret := none) (by decide) rfl ?_
  intro p e s m args below meth c s₁ B hml hv
  obtain ⟨rfl, ⟨hP, hK, hD0, hKC0, hTC⟩, hXN⟩ := hv
  have hP0 := hP
  have hD : va_D (fun q => q ∈ L) (va_pl L g) := we_D (fun _ h => h) hD0
  have hKC : KC ad (fun q => q ∈ L) s s.heap := hKC0.narrow (fun _ h => Or.inl h)
  have hS : va_S (fun q => q ∈ L) s.heap s.heap [] := va_S.rf
  have hx := B.exec
  have hb := B.bytes
  have hr := B.returns
  have hts := atoms_spec (ws := wsX3_back) B.pre
  have hown : s.vm.findClass RX3 = some m.cls := findClass_of_methodNamed B.named
  have hlocks := B.notSynchronized
  have hrs : ∀ q : Nat, q ≠ om → q ≠ cj → g q = g q := fun q _ _ => rfl
  have hl := lv_entry ([.ref om, .int x1]) (n := 2) (Nat.le_of_ble_eq_true rfl)
  rw [lg_entry_eq]
  generalize (lg_sl ([.ref om, .int x1]) ++ List.replicate (2 - (lg_sl ([.ref om, .int x1])).length) Slot.unset).toArray = ls at hl ⊢
  have hl : lv_has ls 2 [(0, .ref om), (1, .int x1)] := hl
  refine lv_aload_n hx hb dX3_back_0 rfl (lv_at hl 0 rfl) ?_
  refine lv_iload_n hx hb dX3_back_1 rfl (lv_at hl 1 rfl) ?_
  refine mc_V (b := om) (As := [.int x1]) (rest := []) ⟨hx, hb, hml, hown, hts⟩ (c_X3_isThere l D tys ad L g  om fz cj kn kc kr kt kw ff cv x1 hL_om hL_fz hL_cj hg_om hg_fz hg_cj ne_fz_om ne_cj_om htJ htZ) (cwV 1 hts gX3_back_X3_isThere rfl rfl rfl hd_X3_isThere ⟨Nat.le_of_ble_eq_true rfl, Nat.le_of_ble_eq_true rfl⟩) (pg_recv hK hP hL_om hg_om rfl) (fun U hU hvm => WM hP hK hD hKC0 hTC hS hU hvm) hXN hS (fun _ h => h) rfl hl.1 rfl (lv_room (Nat.le_of_ble_eq_true rfl)) dX3_back_2 ⟨Nat.le_of_ble_eq_true rfl, Nat.le_of_ble_eq_true rfl⟩ (fun g1 H locs hp9 hP hD hS => ?_)
  refine W.eq (g2 := F0 m 5 ls [.int ((fX3_isThere kn kc kr kt kw ff cv x1).1)]) rfl ?_
  obtain ⟨hn9_om, hr9⟩ := hp9
  have hg_om : g1 om = .inr (3, [.ref fz, .ref cj, .int kn, .int kc, .int kr, .int ((fX3_isThere kn kc kr kt kw ff cv x1).2), .long kw]) := hn9_om
  have hg_fz : g1 fz = .inl (cyZ, 8, .inl ff) := (hr9 fz ne_fz_om).trans hg_fz
  have hg_cj : g1 cj = .inl (cyJ, 56, .inr (.inl cv)) := (hr9 cj ne_cj_om).trans hg_cj
  have hrs : ∀ q : Nat, q ≠ om → q ≠ cj → g1 q = g q := fun q h_om h_cj => (hr9 q h_om).trans (hrs q h_om h_cj)
  refine lv_if_eq (tgt := 13) hx hb dX3_back_5 (by decide) (fun c_1 => ?_) (fun c_1 => ?_)
  · have hF : fX3_back kn kc kr kt kw ff cv x1 = (cv, (fX3_isThere kn kc kr kt kw ff cv x1).2) := (by unfold fX3_back; rw [if_pos c_1])
    have hF0 : (fX3_back kn kc kr kt kw ff cv x1).1 = cv := by rw [hF]
    have hF1 : (fX3_back kn kc kr kt kw ff cv x1).2 = (fX3_isThere kn kc kr kt kw ff cv x1).2 := by rw [hF]
    exact W.vret hx hb hr (fun t ht hW => ⟨rfl, ⟨g1, WM hP hK hD hKC0 hTC hS ht hW.alike, by rw [hF0, hF1]; exact ⟨hg_om, hg_cj, hrs⟩⟩, hS.F ht⟩) (fun q h => hS.2.2 q h) dX3_back_13
  · refine lv_aload_n hx hb dX3_back_8 rfl (lv_at hl 0 rfl) ?_
    refine lv_iload_n hx hb dX3_back_9 rfl (lv_at hl 1 rfl) ?_
    refine mc_V (b := om) (As := [.int x1]) (rest := []) ⟨hx, hb, hml, hown, hts⟩ (c_X3_fresh l D tys ad L g1  om fz cj kn kc kr ((fX3_isThere kn kc kr kt kw ff cv x1).2) kw ff cv x1 hL_om hL_fz hL_cj hg_om hg_fz hg_cj ne_om_cj ne_fz_cj htJ htZ (it_in hkn c_1)) (cwV 1 hts gX3_back_X3_fresh rfl rfl rfl hd_X3_fresh ⟨Nat.le_of_ble_eq_true rfl, Nat.le_of_ble_eq_true rfl⟩) (pg_recv hK hP hL_om hg_om rfl) (fun U hU hvm => WM hP hK hD hKC0 hTC hS hU hvm) hXN hS (fun _ h => h) rfl hl.1 rfl (lv_room (Nat.le_of_ble_eq_true rfl)) dX3_back_10 ⟨Nat.le_of_ble_eq_true rfl, Nat.le_of_ble_eq_true rfl⟩ (fun g2 H locs hp9 hP hD hS => ?_)
    refine W.eq (g2 := F0 m 13 ls []) rfl ?_
    obtain ⟨hn9_cj, hr9⟩ := hp9
    have hg_om : g2 om = .inr (3, [.ref fz, .ref cj, .int kn, .int kc, .int kr, .int ((fX3_isThere kn kc kr kt kw ff cv x1).2), .long kw]) := (hr9 om ne_om_cj).trans hg_om
    have hg_fz : g2 fz = .inl (cyZ, 8, .inl ff) := (hr9 fz ne_fz_cj).trans hg_fz
    have hg_cj : g2 cj = .inl (cyJ, 56, .inr (.inl (fX3_fresh kn kc kr ((fX3_isThere kn kc kr kt kw ff cv x1).2) kw ff cv x1))) := hn9_cj
    have hrs : ∀ q : Nat, q ≠ om → q ≠ cj → g2 q = g q := fun q h_om h_cj => (hr9 q h_cj).trans (hrs q h_om h_cj)
    have hF : fX3_back kn kc kr kt kw ff cv x1 = (fX3_fresh kn kc kr ((fX3_isThere kn kc kr kt kw ff cv x1).2) kw ff cv x1, (fX3_isThere kn kc kr kt kw ff cv x1).2) := (by unfold fX3_back; rw [if_neg c_1])
    have hF0 : (fX3_back kn kc kr kt kw ff cv x1).1 = fX3_fresh kn kc kr ((fX3_isThere kn kc kr kt kw ff cv x1).2) kw ff cv x1 := by rw [hF]
    have hF1 : (fX3_back kn kc kr kt kw ff cv x1).2 = (fX3_isThere kn kc kr kt kw ff cv x1).2 := by rw [hF]
    exact W.vret hx hb hr (fun t ht hW => ⟨rfl, ⟨g2, WM hP hK hD hKC0 hTC hS ht hW.alike, by rw [hF0, hF1]; exact ⟨hg_om, hg_cj, hrs⟩⟩, hS.F ht⟩) (fun q h => hS.2.2 q h) dX3_back_13
def fX3_tally (kn : Int32) (kc : Int32) (kr : Int32) (kt : Int32) (kw : Int64) (ff : Nat → Int32) (cv : Nat → Int64) (x1 : Int32) (x2 : Int32) (x3 : Int64) : Int64 × Int32 × Int32 × Int64 :=
  if x2 < 0 then
    ((0 : Int64), kr, (1 : Int32), kw)
  else
    if x2 ≤ (4 : Int32) then
      if x1 = 0 then
        (((fX3_grown x2 kr.toInt64 x3.toInt32.toInt64).toInt32).toInt64, (fX3_grown x2 kr.toInt64 x3.toInt32.toInt64).toInt32, (0 : Int32), kw)
      else
        (fX3_grown x2 kw x3, kr, (0 : Int32), fX3_grown x2 kw x3)
    else
      ((0 : Int64), kr, (1 : Int32), kw)
theorem hd_X3_tally : yX3_tally.cls = RX3 ∧ yX3_tally.cls ≠ "java/lang/invoke/MethodHandle" ∧ yX3_tally.cls ≠ "java/lang/invoke/VarHandle" ∧ (parseMethodDescriptor yX3_tally.desc).map (fun d => d.parameters.length) = some 3 := by decide +kernel
theorem hin_X3_X3_tally : ∀ w ∈ wsX30, w ∈ wsX3_tally := by decide +kernel
set_option maxHeartbeats 1000000 in
set_option maxRecDepth 100000 in
theorem c_X3_tally (l : Launch) {cyJ : ClassId} {cyZ : ClassId} (D : va_G) (tys : List (ClassId × FieldType)) (ad : Nat → Nat) (L : List Nat) (g : Nat → va_E) (om fz cj : Nat) (kn : Int32) (kc : Int32) (kr : Int32) (kt : Int32) (kw : Int64) (ff : Nat → Int32) (cv : Nat → Int64) (x1 : Int32) (x2 : Int32) (x3 : Int64) (hL_om : om ∈ L) (hL_fz : fz ∈ L) (hL_cj : cj ∈ L) (hg_om : g om = .inr (3, [.ref fz, .ref cj, .int kn, .int kc, .int kr, .int kt, .long kw])) (hg_fz : g fz = .inl (cyZ, 8, .inl ff)) (hg_cj : g cj = .inl (cyJ, 56, .inr (.inl cv))) (ne_fz_om : fz ≠ om) (ne_cj_om : cj ≠ om) (htJ : tys[0]? = some (cyJ, .long)) (htZ : tys[1]? = some (cyZ, .boolean)) : Met l yX3_tally wsX3_tally ({ frames := 1, cells := 0, slots := 0, locals := 26 }) (PW D tys ad L g [.ref om, .int x1, .int x2, .long x3]) (QE D tys ad L (some (.long ((fX3_tally kn kc kr kt kw ff cv x1 x2 x3).1))) (fun g1 => g1 om = .inr (3, [.ref fz, .ref cj, .int kn, .int kc, .int ((fX3_tally kn kc kr kt kw ff cv x1 x2 x3).2.1), .int ((fX3_tally kn kc kr kt kw ff cv x1 x2 x3).2.2.1), .long ((fX3_tally kn kc kr kt kw ff cv x1 x2 x3).2.2.2)]) ∧ ∀ q : Nat, q ≠ om → g1 q = g q)) 0 0 (fun q => q ∈ L) := by
  refine Met.ofW (cc := cX3_tally) (maxL := 5) (ret := (some .long)) (by decide) rfl ?_
  intro p e s m args below meth c s₁ B hml hv
  obtain ⟨rfl, ⟨hP, hK, hD0, hKC0, hTC⟩, hXN⟩ := hv
  have hP0 := hP
  have hD : va_D (fun q => q ∈ L) (va_pl L g) := we_D (fun _ h => h) hD0
  have hKC : KC ad (fun q => q ∈ L) s s.heap := hKC0.narrow (fun _ h => Or.inl h)
  have hS : va_S (fun q => q ∈ L) s.heap s.heap [] := va_S.rf
  have hx := B.exec
  have hb := B.bytes
  have hr := B.returns
  have hts := atoms_spec (ws := wsX3_tally) B.pre
  have hown : s.vm.findClass RX3 = some m.cls := findClass_of_methodNamed B.named
  have hlocks := B.notSynchronized
  have hrs : ∀ q : Nat, q ≠ om → g q = g q := fun q _ => rfl
  have hl := lv_entry ([.ref om, .int x1, .int x2, .long x3]) (n := 5) (Nat.le_of_ble_eq_true rfl)
  rw [lg_entry_eq]
  generalize (lg_sl ([.ref om, .int x1, .int x2, .long x3]) ++ List.replicate (5 - (lg_sl ([.ref om, .int x1, .int x2, .long x3])).length) Slot.unset).toArray = ls at hl ⊢
  have hl : lv_has ls 5 [(0, .ref om), (1, .int x1), (2, .int x2), (3, .long x3)] := hl
  refine lv_aload_n hx hb dX3_tally_0 rfl (lv_at hl 0 rfl) ?_
  refine lv_iload_n hx hb dX3_tally_1 rfl (lv_at hl 2 rfl) ?_
  refine lv_if_lt (tgt := 10) hx hb dX3_tally_2 (by decide) (fun c_1 => ?_) (fun c_1 => ?_)
  · refine lv_iconst (v := 1) hx hb dX3_tally_10 (by decide) ?_
    refine lv_goto (tgt := 15) hx hb dX3_tally_11 (by decide) ?_
    refine pg_put (ty := .int) hx hb hts hin_X3_X3_tally tyX3 tyX3_ok nmX3 hown hK hP hD hS hL_om hg_om rfl 5 (by decide) (hts (.fieldLink RX3 17 "NeedleBoardModel" "thrown" "I") (by decide +kernel)) rfl (by decide +kernel) rfl rfl (Nat.le_of_ble_eq_true rfl) dX3_tally_15 (fun H locs hP hD hS => ?_)
    obtain ⟨g1, eg1⟩ : ∃ z : Nat → va_E, z = va_up g om (.inr (3, [.ref fz, .ref cj, .int kn, .int kc, .int kr, .int (1 : Int32), .long kw])) := ⟨_, rfl⟩
    have hP : va_P D vwCl (va_pl L g1) H := by rw [eg1]; exact hP
    have hD : va_D (fun q => q ∈ L) (va_pl L g1) := by rw [eg1]; exact hD
    have hg_om : g1 om = .inr (3, [.ref fz, .ref cj, .int kn, .int kc, .int kr, .int (1 : Int32), .long kw]) := by rw [eg1]; exact va_up_self _ _ _
    have hg_fz : g1 fz = .inl (cyZ, 8, .inl ff) := (congrFun eg1 fz).trans ((va_up_ne _ _ ne_fz_om).trans hg_fz)
    have hg_cj : g1 cj = .inl (cyJ, 56, .inr (.inl cv)) := (congrFun eg1 cj).trans ((va_up_ne _ _ ne_cj_om).trans hg_cj)
    have hrs : ∀ q : Nat, q ≠ om → g1 q = g q := fun q h_om => (congrFun eg1 q).trans ((va_up_ne _ _ h_om).trans (hrs q h_om))
    refine lv_aload_n hx hb dX3_tally_18 rfl (lv_at hl 0 rfl) ?_
    refine pg_get hx hb hts hin_X3_X3_tally hown hK hP hL_om hg_om rfl 5 (by decide) (hts (.fieldLink RX3 17 "NeedleBoardModel" "thrown" "I") (by decide +kernel)) rfl dX3_tally_19 ?_
    refine lv_if_le (tgt := 27) hx hb dX3_tally_22 (by decide) (fun h9 => absurd h9 (by decide)) (fun _ => ?_)
    refine lv_lconst (v := 0) hx hb dX3_tally_25 (by decide) ?_
    have hF : fX3_tally kn kc kr kt kw ff cv x1 x2 x3 = ((0 : Int64), kr, (1 : Int32), kw) := (by unfold fX3_tally; rw [if_pos c_1])
    have hF0 : (fX3_tally kn kc kr kt kw ff cv x1 x2 x3).1 = (0 : Int64) := by rw [hF]
    have hF1 : (fX3_tally kn kc kr kt kw ff cv x1 x2 x3).2.1 = kr := by rw [hF]
    have hF2 : (fX3_tally kn kc kr kt kw ff cv x1 x2 x3).2.2.1 = (1 : Int32) := by rw [hF]
    have hF3 : (fX3_tally kn kc kr kt kw ff cv x1 x2 x3).2.2.2 = kw := by rw [hF]
    exact W.lret hx hb hr (fun t ht hW => ⟨congrArg (fun z => Outcome.returned (some (Value.long z))) hF0.symm, ⟨g1, WM hP hK hD hKC0 hTC hS ht hW.alike, by rw [hF1, hF2, hF3]; exact ⟨hg_om, hrs⟩⟩, hS.F ht⟩) (fun q h => hS.2.2 q h) dX3_tally_26
  · refine lv_iload_n hx hb dX3_tally_5 rfl (lv_at hl 2 rfl) ?_
    refine lv_iconst (v := 4) hx hb dX3_tally_6 (by decide) ?_
    refine lv_icmp_le (tgt := 14) hx hb dX3_tally_7 (by decide) (fun c_2 => ?_) (fun c_2 => ?_)
    · refine lv_iconst (v := 0) hx hb dX3_tally_14 (by decide) ?_
      refine pg_put (ty := .int) hx hb hts hin_X3_X3_tally tyX3 tyX3_ok nmX3 hown hK hP hD hS hL_om hg_om rfl 5 (by decide) (hts (.fieldLink RX3 17 "NeedleBoardModel" "thrown" "I") (by decide +kernel)) rfl (by decide +kernel) rfl rfl (Nat.le_of_ble_eq_true rfl) dX3_tally_15 (fun H locs hP hD hS => ?_)
      obtain ⟨g1, eg1⟩ : ∃ z : Nat → va_E, z = va_up g om (.inr (3, [.ref fz, .ref cj, .int kn, .int kc, .int kr, .int (0 : Int32), .long kw])) := ⟨_, rfl⟩
      have hP : va_P D vwCl (va_pl L g1) H := by rw [eg1]; exact hP
      have hD : va_D (fun q => q ∈ L) (va_pl L g1) := by rw [eg1]; exact hD
      have hg_om : g1 om = .inr (3, [.ref fz, .ref cj, .int kn, .int kc, .int kr, .int (0 : Int32), .long kw]) := by rw [eg1]; exact va_up_self _ _ _
      have hg_fz : g1 fz = .inl (cyZ, 8, .inl ff) := (congrFun eg1 fz).trans ((va_up_ne _ _ ne_fz_om).trans hg_fz)
      have hg_cj : g1 cj = .inl (cyJ, 56, .inr (.inl cv)) := (congrFun eg1 cj).trans ((va_up_ne _ _ ne_cj_om).trans hg_cj)
      have hrs : ∀ q : Nat, q ≠ om → g1 q = g q := fun q h_om => (congrFun eg1 q).trans ((va_up_ne _ _ h_om).trans (hrs q h_om))
      refine lv_aload_n hx hb dX3_tally_18 rfl (lv_at hl 0 rfl) ?_
      refine pg_get hx hb hts hin_X3_X3_tally hown hK hP hL_om hg_om rfl 5 (by decide) (hts (.fieldLink RX3 17 "NeedleBoardModel" "thrown" "I") (by decide +kernel)) rfl dX3_tally_19 ?_
      refine lv_if_le (tgt := 27) hx hb dX3_tally_22 (by decide) (fun _ => ?_) (fun h9 => absurd h9 (by decide))
      refine lv_iload_n hx hb dX3_tally_27 rfl (lv_at hl 1 rfl) ?_
      refine lv_if_eq (tgt := 49) hx hb dX3_tally_28 (by decide) (fun c_3 => ?_) (fun c_3 => ?_)
      · refine lv_aload_n hx hb dX3_tally_49 rfl (lv_at hl 0 rfl) ?_
        refine lv_iload_n hx hb dX3_tally_50 rfl (lv_at hl 2 rfl) ?_
        refine lv_aload_n hx hb dX3_tally_51 rfl (lv_at hl 0 rfl) ?_
        refine pg_get hx hb hts hin_X3_X3_tally hown hK hP hL_om hg_om rfl 4 (by decide) (hts (.fieldLink RX3 146 "NeedleBoardModel" "narrow" "I") (by decide +kernel)) rfl dX3_tally_52 ?_
        refine lv_i2l hx hb dX3_tally_55 rfl ?_
        refine lv_lload_n hx hb dX3_tally_56 rfl (lv_at hl 3 rfl) ?_
        refine lv_l2i hx hb dX3_tally_57 rfl ?_
        refine lv_i2l hx hb dX3_tally_58 rfl ?_
        refine pc_0 (As := [.int x2, .long kr.toInt64, .long x3.toInt32.toInt64]) (rest := [.ref om]) (r := .long (fX3_grown x2 kr.toInt64 x3.toInt32.toInt64)) ⟨hx, hb, hml, hown, hts⟩ (c_X3_grown l x2 kr.toInt64 x3.toInt32.toInt64) (va_cwS 3 hts gX3_tally_X3_grown rfl rfl rfl hd_X3_grown ⟨Nat.le_of_ble_eq_true rfl, Nat.le_of_ble_eq_true rfl⟩) rfl hl.1 rfl (lv_room (Nat.le_of_ble_eq_true rfl)) dX3_tally_59 ⟨Nat.le_of_ble_eq_true rfl, Nat.le_of_ble_eq_true rfl⟩ ?_
        refine lv_l2i hx hb dX3_tally_62 rfl ?_
        refine pg_put (ty := .int) hx hb hts hin_X3_X3_tally tyX3 tyX3_ok nmX3 hown hK hP hD hS hL_om hg_om rfl 4 (by decide) (hts (.fieldLink RX3 146 "NeedleBoardModel" "narrow" "I") (by decide +kernel)) rfl (by decide +kernel) rfl rfl (Nat.le_of_ble_eq_true rfl) dX3_tally_63 (fun H locs hP hD hS => ?_)
        obtain ⟨g2, eg2⟩ : ∃ z : Nat → va_E, z = va_up g1 om (.inr (3, [.ref fz, .ref cj, .int kn, .int kc, .int ((fX3_grown x2 kr.toInt64 x3.toInt32.toInt64).toInt32), .int (0 : Int32), .long kw])) := ⟨_, rfl⟩
        have hP : va_P D vwCl (va_pl L g2) H := by rw [eg2]; exact hP
        have hD : va_D (fun q => q ∈ L) (va_pl L g2) := by rw [eg2]; exact hD
        have hg_om : g2 om = .inr (3, [.ref fz, .ref cj, .int kn, .int kc, .int ((fX3_grown x2 kr.toInt64 x3.toInt32.toInt64).toInt32), .int (0 : Int32), .long kw]) := by rw [eg2]; exact va_up_self _ _ _
        have hg_fz : g2 fz = .inl (cyZ, 8, .inl ff) := (congrFun eg2 fz).trans ((va_up_ne _ _ ne_fz_om).trans hg_fz)
        have hg_cj : g2 cj = .inl (cyJ, 56, .inr (.inl cv)) := (congrFun eg2 cj).trans ((va_up_ne _ _ ne_cj_om).trans hg_cj)
        have hrs : ∀ q : Nat, q ≠ om → g2 q = g q := fun q h_om => (congrFun eg2 q).trans ((va_up_ne _ _ h_om).trans (hrs q h_om))
        refine lv_aload_n hx hb dX3_tally_66 rfl (lv_at hl 0 rfl) ?_
        refine pg_get hx hb hts hin_X3_X3_tally hown hK hP hL_om hg_om rfl 4 (by decide) (hts (.fieldLink RX3 146 "NeedleBoardModel" "narrow" "I") (by decide +kernel)) rfl dX3_tally_67 ?_
        refine lv_i2l hx hb dX3_tally_70 rfl ?_
        have hF : fX3_tally kn kc kr kt kw ff cv x1 x2 x3 = (((fX3_grown x2 kr.toInt64 x3.toInt32.toInt64).toInt32).toInt64, (fX3_grown x2 kr.toInt64 x3.toInt32.toInt64).toInt32, (0 : Int32), kw) := (by unfold fX3_tally; rw [if_neg c_1, if_pos c_2, if_pos c_3])
        have hF0 : (fX3_tally kn kc kr kt kw ff cv x1 x2 x3).1 = ((fX3_grown x2 kr.toInt64 x3.toInt32.toInt64).toInt32).toInt64 := by rw [hF]
        have hF1 : (fX3_tally kn kc kr kt kw ff cv x1 x2 x3).2.1 = (fX3_grown x2 kr.toInt64 x3.toInt32.toInt64).toInt32 := by rw [hF]
        have hF2 : (fX3_tally kn kc kr kt kw ff cv x1 x2 x3).2.2.1 = (0 : Int32) := by rw [hF]
        have hF3 : (fX3_tally kn kc kr kt kw ff cv x1 x2 x3).2.2.2 = kw := by rw [hF]
        exact W.lret hx hb hr (fun t ht hW => ⟨congrArg (fun z => Outcome.returned (some (Value.long z))) hF0.symm, ⟨g2, WM hP hK hD hKC0 hTC hS ht hW.alike, by rw [hF1, hF2, hF3]; exact ⟨hg_om, hrs⟩⟩, hS.F ht⟩) (fun q h => hS.2.2 q h) dX3_tally_71
      · refine lv_aload_n hx hb dX3_tally_31 rfl (lv_at hl 0 rfl) ?_
        refine lv_iload_n hx hb dX3_tally_32 rfl (lv_at hl 2 rfl) ?_
        refine lv_aload_n hx hb dX3_tally_33 rfl (lv_at hl 0 rfl) ?_
        refine pg_get hx hb hts hin_X3_X3_tally hown hK hP hL_om hg_om rfl 6 (by decide) (hts (.fieldLink RX3 138 "NeedleBoardModel" "wide" "J") (by decide +kernel)) rfl dX3_tally_34 ?_
        refine lv_lload_n hx hb dX3_tally_37 rfl (lv_at hl 3 rfl) ?_
        refine pc_0 (As := [.int x2, .long kw, .long x3]) (rest := [.ref om]) (r := .long (fX3_grown x2 kw x3)) ⟨hx, hb, hml, hown, hts⟩ (c_X3_grown l x2 kw x3) (va_cwS 3 hts gX3_tally_X3_grown rfl rfl rfl hd_X3_grown ⟨Nat.le_of_ble_eq_true rfl, Nat.le_of_ble_eq_true rfl⟩) rfl hl.1 rfl (lv_room (Nat.le_of_ble_eq_true rfl)) dX3_tally_38 ⟨Nat.le_of_ble_eq_true rfl, Nat.le_of_ble_eq_true rfl⟩ ?_
        refine pg_put (ty := .long) hx hb hts hin_X3_X3_tally tyX3 tyX3_ok nmX3 hown hK hP hD hS hL_om hg_om rfl 6 (by decide) (hts (.fieldLink RX3 138 "NeedleBoardModel" "wide" "J") (by decide +kernel)) rfl (by decide +kernel) rfl rfl (Nat.le_of_ble_eq_true rfl) dX3_tally_41 (fun H locs hP hD hS => ?_)
        obtain ⟨g2, eg2⟩ : ∃ z : Nat → va_E, z = va_up g1 om (.inr (3, [.ref fz, .ref cj, .int kn, .int kc, .int kr, .int (0 : Int32), .long (fX3_grown x2 kw x3)])) := ⟨_, rfl⟩
        have hP : va_P D vwCl (va_pl L g2) H := by rw [eg2]; exact hP
        have hD : va_D (fun q => q ∈ L) (va_pl L g2) := by rw [eg2]; exact hD
        have hg_om : g2 om = .inr (3, [.ref fz, .ref cj, .int kn, .int kc, .int kr, .int (0 : Int32), .long (fX3_grown x2 kw x3)]) := by rw [eg2]; exact va_up_self _ _ _
        have hg_fz : g2 fz = .inl (cyZ, 8, .inl ff) := (congrFun eg2 fz).trans ((va_up_ne _ _ ne_fz_om).trans hg_fz)
        have hg_cj : g2 cj = .inl (cyJ, 56, .inr (.inl cv)) := (congrFun eg2 cj).trans ((va_up_ne _ _ ne_cj_om).trans hg_cj)
        have hrs : ∀ q : Nat, q ≠ om → g2 q = g q := fun q h_om => (congrFun eg2 q).trans ((va_up_ne _ _ h_om).trans (hrs q h_om))
        refine lv_aload_n hx hb dX3_tally_44 rfl (lv_at hl 0 rfl) ?_
        refine pg_get hx hb hts hin_X3_X3_tally hown hK hP hL_om hg_om rfl 6 (by decide) (hts (.fieldLink RX3 138 "NeedleBoardModel" "wide" "J") (by decide +kernel)) rfl dX3_tally_45 ?_
        have hF : fX3_tally kn kc kr kt kw ff cv x1 x2 x3 = (fX3_grown x2 kw x3, kr, (0 : Int32), fX3_grown x2 kw x3) := (by unfold fX3_tally; rw [if_neg c_1, if_pos c_2, if_neg c_3])
        have hF0 : (fX3_tally kn kc kr kt kw ff cv x1 x2 x3).1 = fX3_grown x2 kw x3 := by rw [hF]
        have hF1 : (fX3_tally kn kc kr kt kw ff cv x1 x2 x3).2.1 = kr := by rw [hF]
        have hF2 : (fX3_tally kn kc kr kt kw ff cv x1 x2 x3).2.2.1 = (0 : Int32) := by rw [hF]
        have hF3 : (fX3_tally kn kc kr kt kw ff cv x1 x2 x3).2.2.2 = fX3_grown x2 kw x3 := by rw [hF]
        exact W.lret hx hb hr (fun t ht hW => ⟨congrArg (fun z => Outcome.returned (some (Value.long z))) hF0.symm, ⟨g2, WM hP hK hD hKC0 hTC hS ht hW.alike, by rw [hF1, hF2, hF3]; exact ⟨hg_om, hrs⟩⟩, hS.F ht⟩) (fun q h => hS.2.2 q h) dX3_tally_48
    · refine lv_iconst (v := 1) hx hb dX3_tally_10 (by decide) ?_
      refine lv_goto (tgt := 15) hx hb dX3_tally_11 (by decide) ?_
      refine pg_put (ty := .int) hx hb hts hin_X3_X3_tally tyX3 tyX3_ok nmX3 hown hK hP hD hS hL_om hg_om rfl 5 (by decide) (hts (.fieldLink RX3 17 "NeedleBoardModel" "thrown" "I") (by decide +kernel)) rfl (by decide +kernel) rfl rfl (Nat.le_of_ble_eq_true rfl) dX3_tally_15 (fun H locs hP hD hS => ?_)
      obtain ⟨g1, eg1⟩ : ∃ z : Nat → va_E, z = va_up g om (.inr (3, [.ref fz, .ref cj, .int kn, .int kc, .int kr, .int (1 : Int32), .long kw])) := ⟨_, rfl⟩
      have hP : va_P D vwCl (va_pl L g1) H := by rw [eg1]; exact hP
      have hD : va_D (fun q => q ∈ L) (va_pl L g1) := by rw [eg1]; exact hD
      have hg_om : g1 om = .inr (3, [.ref fz, .ref cj, .int kn, .int kc, .int kr, .int (1 : Int32), .long kw]) := by rw [eg1]; exact va_up_self _ _ _
      have hg_fz : g1 fz = .inl (cyZ, 8, .inl ff) := (congrFun eg1 fz).trans ((va_up_ne _ _ ne_fz_om).trans hg_fz)
      have hg_cj : g1 cj = .inl (cyJ, 56, .inr (.inl cv)) := (congrFun eg1 cj).trans ((va_up_ne _ _ ne_cj_om).trans hg_cj)
      have hrs : ∀ q : Nat, q ≠ om → g1 q = g q := fun q h_om => (congrFun eg1 q).trans ((va_up_ne _ _ h_om).trans (hrs q h_om))
      refine lv_aload_n hx hb dX3_tally_18 rfl (lv_at hl 0 rfl) ?_
      refine pg_get hx hb hts hin_X3_X3_tally hown hK hP hL_om hg_om rfl 5 (by decide) (hts (.fieldLink RX3 17 "NeedleBoardModel" "thrown" "I") (by decide +kernel)) rfl dX3_tally_19 ?_
      refine lv_if_le (tgt := 27) hx hb dX3_tally_22 (by decide) (fun h9 => absurd h9 (by decide)) (fun _ => ?_)
      refine lv_lconst (v := 0) hx hb dX3_tally_25 (by decide) ?_
      have hF : fX3_tally kn kc kr kt kw ff cv x1 x2 x3 = ((0 : Int64), kr, (1 : Int32), kw) := (by unfold fX3_tally; rw [if_neg c_1, if_neg c_2])
      have hF0 : (fX3_tally kn kc kr kt kw ff cv x1 x2 x3).1 = (0 : Int64) := by rw [hF]
      have hF1 : (fX3_tally kn kc kr kt kw ff cv x1 x2 x3).2.1 = kr := by rw [hF]
      have hF2 : (fX3_tally kn kc kr kt kw ff cv x1 x2 x3).2.2.1 = (1 : Int32) := by rw [hF]
      have hF3 : (fX3_tally kn kc kr kt kw ff cv x1 x2 x3).2.2.2 = kw := by rw [hF]
      exact W.lret hx hb hr (fun t ht hW => ⟨congrArg (fun z => Outcome.returned (some (Value.long z))) hF0.symm, ⟨g1, WM hP hK hD hKC0 hTC hS ht hW.alike, by rw [hF1, hF2, hF3]; exact ⟨hg_om, hrs⟩⟩, hS.F ht⟩) (fun q h => hS.2.2 q h) dX3_tally_26
def fX3_needle (kn : Int32) (kc : Int32) (kr : Int32) (kt : Int32) (kw : Int64) (ff : Nat → Int32) (cv : Nat → Int64) (x1 : Int32) (x2 : Int64) (x4 : Int64) : Int32 × (Nat → Int32) × (Nat → Int64) × Int32 × Int32 :=
  if (fX3_isNumber x1 (fX3_own x1 x2)) = 0 then
    ((0 : Int32), ff, cv, kn, (1 : Int32))
  else
    if (fX3_isNumber x1 (fX3_own x1 x4)) = 0 then
      ((0 : Int32), ff, cv, kn, (1 : Int32))
    else
      if (fX3_rank x1 (fX3_own x1 x4)) < (fX3_rank x1 (fX3_own x1 x2)) then
        ((0 : Int32), ff, cv, kn, (1 : Int32))
      else
        if kn = (8 : Int32) then
          ((0 : Int32), ff, cv, kn, (2 : Int32))
        else
          if x1 = 0 then
            ((kn + (1 : Int32)) - (1 : Int32), upd ff kn.toNatClampNeg (vp_nar .boolean x1), fX3_fresh kn kc kr (0 : Int32) kw (upd ff kn.toNatClampNeg (vp_nar .boolean x1)) (fX3_set kn kc kr (0 : Int32) kw (upd ff kn.toNatClampNeg (vp_nar .boolean x1)) (fX3_set kn kc kr (0 : Int32) kw (upd ff kn.toNatClampNeg (vp_nar .boolean x1)) (fX3_set kn kc kr (0 : Int32) kw (upd ff kn.toNatClampNeg (vp_nar .boolean x1)) cv kn (0 : Int32) (fX3_own x1 x2)) kn (1 : Int32) (fX3_own x1 x4)) kn (3 : Int32) (2139095040 : Int64)) kn, kn + (1 : Int32), (0 : Int32))
          else
            ((kn + (1 : Int32)) - (1 : Int32), upd ff kn.toNatClampNeg (vp_nar .boolean x1), fX3_fresh kn kc kr (0 : Int32) kw (upd ff kn.toNatClampNeg (vp_nar .boolean x1)) (fX3_set kn kc kr (0 : Int32) kw (upd ff kn.toNatClampNeg (vp_nar .boolean x1)) (fX3_set kn kc kr (0 : Int32) kw (upd ff kn.toNatClampNeg (vp_nar .boolean x1)) (fX3_set kn kc kr (0 : Int32) kw (upd ff kn.toNatClampNeg (vp_nar .boolean x1)) cv kn (0 : Int32) (fX3_own x1 x2)) kn (1 : Int32) (fX3_own x1 x4)) kn (3 : Int32) (9218868437227405312 : Int64)) kn, kn + (1 : Int32), (0 : Int32))
theorem hd_X3_needle : yX3_needle.cls = RX3 ∧ yX3_needle.cls ≠ "java/lang/invoke/MethodHandle" ∧ yX3_needle.cls ≠ "java/lang/invoke/VarHandle" ∧ (parseMethodDescriptor yX3_needle.desc).map (fun d => d.parameters.length) = some 3 := by decide +kernel
theorem hin_X3_X3_needle : ∀ w ∈ wsX30, w ∈ wsX3_needle := by decide +kernel
set_option maxHeartbeats 1000000 in
set_option maxRecDepth 100000 in
theorem c_X3_needle (l : Launch) {cyJ : ClassId} {cyZ : ClassId} (D : va_G) (tys : List (ClassId × FieldType)) (ad : Nat → Nat) (L : List Nat) (g : Nat → va_E) (om fz cj : Nat) (kn : Int32) (kc : Int32) (kr : Int32) (kt : Int32) (kw : Int64) (ff : Nat → Int32) (cv : Nat → Int64) (x1 : Int32) (x2 : Int64) (x4 : Int64) (hL_om : om ∈ L) (hL_fz : fz ∈ L) (hL_cj : cj ∈ L) (hg_om : g om = .inr (3, [.ref fz, .ref cj, .int kn, .int kc, .int kr, .int kt, .long kw])) (hg_fz : g fz = .inl (cyZ, 8, .inl ff)) (hg_cj : g cj = .inl (cyJ, 56, .inr (.inl cv))) (ne_om_fz : om ≠ fz) (ne_om_cj : om ≠ cj) (ne_fz_om : fz ≠ om) (ne_fz_cj : fz ≠ cj) (ne_cj_om : cj ≠ om) (ne_cj_fz : cj ≠ fz) (htJ : tys[0]? = some (cyJ, .long)) (htZ : tys[1]? = some (cyZ, .boolean)) (hkn : 0 ≤ kn ∧ kn ≤ 8) : Met l yX3_needle wsX3_needle ({ frames := 4, cells := 0, slots := 0, locals := 91 }) (PW D tys ad L g [.ref om, .int x1, .long x2, .long x4]) (QE D tys ad L (some (.int ((fX3_needle kn kc kr kt kw ff cv x1 x2 x4).1))) (fun g1 => g1 om = .inr (3, [.ref fz, .ref cj, .int ((fX3_needle kn kc kr kt kw ff cv x1 x2 x4).2.2.2.1), .int kc, .int kr, .int ((fX3_needle kn kc kr kt kw ff cv x1 x2 x4).2.2.2.2), .long kw]) ∧ g1 fz = .inl (cyZ, 8, .inl ((fX3_needle kn kc kr kt kw ff cv x1 x2 x4).2.1)) ∧ g1 cj = .inl (cyJ, 56, .inr (.inl ((fX3_needle kn kc kr kt kw ff cv x1 x2 x4).2.2.1))) ∧ ∀ q : Nat, q ≠ om → q ≠ fz → q ≠ cj → g1 q = g q)) 0 0 (fun q => q ∈ L) := by
  refine Met.ofW (cc := cX3_needle) (maxL := 11) (ret := (some .int)) (by decide) rfl ?_
  intro p e s m args below meth c s₁ B hml hv
  obtain ⟨rfl, ⟨hP, hK, hD0, hKC0, hTC⟩, hXN⟩ := hv
  have hP0 := hP
  have hD : va_D (fun q => q ∈ L) (va_pl L g) := we_D (fun _ h => h) hD0
  have hKC : KC ad (fun q => q ∈ L) s s.heap := hKC0.narrow (fun _ h => Or.inl h)
  have hS : va_S (fun q => q ∈ L) s.heap s.heap [] := va_S.rf
  have hx := B.exec
  have hb := B.bytes
  have hr := B.returns
  have hts := atoms_spec (ws := wsX3_needle) B.pre
  have hown : s.vm.findClass RX3 = some m.cls := findClass_of_methodNamed B.named
  have hlocks := B.notSynchronized
  have hrs : ∀ q : Nat, q ≠ om → q ≠ fz → q ≠ cj → g q = g q := fun q _ _ _ => rfl
  have hl := lv_entry ([.ref om, .int x1, .long x2, .long x4]) (n := 11) (Nat.le_of_ble_eq_true rfl)
  rw [lg_entry_eq]
  generalize (lg_sl ([.ref om, .int x1, .long x2, .long x4]) ++ List.replicate (11 - (lg_sl ([.ref om, .int x1, .long x2, .long x4])).length) Slot.unset).toArray = ls at hl ⊢
  have hl : lv_has ls 11 [(0, .ref om), (1, .int x1), (2, .long x2), (4, .long x4)] := hl
  refine lv_iload_n hx hb dX3_needle_0 rfl (lv_at hl 1 rfl) ?_
  refine lv_lload_n hx hb dX3_needle_1 rfl (lv_at hl 2 rfl) ?_
  refine pc_0 (As := [.int x1, .long x2]) (rest := []) (r := .long (fX3_own x1 x2)) ⟨hx, hb, hml, hown, hts⟩ (c_X3_own l x1 x2) (va_cwS 2 hts gX3_needle_X3_own rfl rfl rfl hd_X3_own ⟨Nat.le_of_ble_eq_true rfl, Nat.le_of_ble_eq_true rfl⟩) rfl hl.1 rfl (lv_room (Nat.le_of_ble_eq_true rfl)) dX3_needle_2 ⟨Nat.le_of_ble_eq_true rfl, Nat.le_of_ble_eq_true rfl⟩ ?_
  refine lv_lstore (lv' := [(6, .long (fX3_own x1 x2)), (0, .ref om), (1, .int x1), (2, .long x2), (4, .long x4)]) hx hb dX3_needle_5 hl (by decide) rfl (fun ls hl => ?_)
  refine lv_iload_n hx hb dX3_needle_7 rfl (lv_at hl 2 rfl) ?_
  refine lv_lload hx hb dX3_needle_8 (lv_at hl 4 rfl) ?_
  refine pc_0 (As := [.int x1, .long x4]) (rest := []) (r := .long (fX3_own x1 x4)) ⟨hx, hb, hml, hown, hts⟩ (c_X3_own l x1 x4) (va_cwS 2 hts gX3_needle_X3_own rfl rfl rfl hd_X3_own ⟨Nat.le_of_ble_eq_true rfl, Nat.le_of_ble_eq_true rfl⟩) rfl hl.1 rfl (lv_room (Nat.le_of_ble_eq_true rfl)) dX3_needle_10 ⟨Nat.le_of_ble_eq_true rfl, Nat.le_of_ble_eq_true rfl⟩ ?_
  refine lv_lstore (lv' := [(8, .long (fX3_own x1 x4)), (6, .long (fX3_own x1 x2)), (0, .ref om), (1, .int x1), (2, .long x2), (4, .long x4)]) hx hb dX3_needle_13 hl (by decide) rfl (fun ls hl => ?_)
  refine lv_iload_n hx hb dX3_needle_15 rfl (lv_at hl 3 rfl) ?_
  refine lv_lload hx hb dX3_needle_16 (lv_at hl 1 rfl) ?_
  refine pc_0 (As := [.int x1, .long (fX3_own x1 x2)]) (rest := []) (r := .int (fX3_isNumber x1 (fX3_own x1 x2))) ⟨hx, hb, hml, hown, hts⟩ (c_X3_isNumber l x1 (fX3_own x1 x2)) (va_cwS 2 hts gX3_needle_X3_isNumber rfl rfl rfl hd_X3_isNumber ⟨Nat.le_of_ble_eq_true rfl, Nat.le_of_ble_eq_true rfl⟩) rfl hl.1 rfl (lv_room (Nat.le_of_ble_eq_true rfl)) dX3_needle_18 ⟨Nat.le_of_ble_eq_true rfl, Nat.le_of_ble_eq_true rfl⟩ ?_
  refine lv_if_eq (tgt := 53) hx hb dX3_needle_21 (by decide) (fun c_1 => ?_) (fun c_1 => ?_)
  · refine lv_iconst (v := 0) hx hb dX3_needle_53 (by decide) ?_
    refine lv_istore (lv' := [(10, .int (0 : Int32)), (8, .long (fX3_own x1 x4)), (6, .long (fX3_own x1 x2)), (0, .ref om), (1, .int x1), (2, .long x2), (4, .long x4)]) hx hb dX3_needle_54 hl (by decide) rfl (fun ls hl => ?_)
    refine lv_aload_n hx hb dX3_needle_56 rfl (lv_at hl 3 rfl) ?_
    refine lv_iload hx hb dX3_needle_57 (lv_at hl 0 rfl) ?_
    refine lv_if_ne (tgt := 66) hx hb dX3_needle_59 (by decide) (fun h9 => absurd h9 (by decide)) (fun _ => ?_)
    refine lv_iconst (v := 1) hx hb dX3_needle_62 (by decide) ?_
    refine lv_goto (tgt := 80) hx hb dX3_needle_63 (by decide) ?_
    refine pg_put (ty := .int) hx hb hts hin_X3_X3_needle tyX3 tyX3_ok nmX3 hown hK hP hD hS hL_om hg_om rfl 5 (by decide) (hts (.fieldLink RX3 17 "NeedleBoardModel" "thrown" "I") (by decide +kernel)) rfl (by decide +kernel) rfl rfl (Nat.le_of_ble_eq_true rfl) dX3_needle_80 (fun H locs hP hD hS => ?_)
    obtain ⟨g1, eg1⟩ : ∃ z : Nat → va_E, z = va_up g om (.inr (3, [.ref fz, .ref cj, .int kn, .int kc, .int kr, .int (1 : Int32), .long kw])) := ⟨_, rfl⟩
    have hP : va_P D vwCl (va_pl L g1) H := by rw [eg1]; exact hP
    have hD : va_D (fun q => q ∈ L) (va_pl L g1) := by rw [eg1]; exact hD
    have hg_om : g1 om = .inr (3, [.ref fz, .ref cj, .int kn, .int kc, .int kr, .int (1 : Int32), .long kw]) := by rw [eg1]; exact va_up_self _ _ _
    have hg_fz : g1 fz = .inl (cyZ, 8, .inl ff) := (congrFun eg1 fz).trans ((va_up_ne _ _ ne_fz_om).trans hg_fz)
    have hg_cj : g1 cj = .inl (cyJ, 56, .inr (.inl cv)) := (congrFun eg1 cj).trans ((va_up_ne _ _ ne_cj_om).trans hg_cj)
    have hrs : ∀ q : Nat, q ≠ om → q ≠ fz → q ≠ cj → g1 q = g q := fun q h_om h_fz h_cj => (congrFun eg1 q).trans ((va_up_ne _ _ h_om).trans (hrs q h_om h_fz h_cj))
    refine lv_aload_n hx hb dX3_needle_83 rfl (lv_at hl 3 rfl) ?_
    refine pg_get hx hb hts hin_X3_X3_needle hown hK hP hL_om hg_om rfl 5 (by decide) (hts (.fieldLink RX3 17 "NeedleBoardModel" "thrown" "I") (by decide +kernel)) rfl dX3_needle_84 ?_
    refine lv_if_le (tgt := 92) hx hb dX3_needle_87 (by decide) (fun h9 => absurd h9 (by decide)) (fun _ => ?_)
    refine lv_iconst (v := 0) hx hb dX3_needle_90 (by decide) ?_
    have hF : fX3_needle kn kc kr kt kw ff cv x1 x2 x4 = ((0 : Int32), ff, cv, kn, (1 : Int32)) := (by unfold fX3_needle; rw [if_pos c_1])
    have hF0 : (fX3_needle kn kc kr kt kw ff cv x1 x2 x4).1 = (0 : Int32) := by rw [hF]
    have hF1 : (fX3_needle kn kc kr kt kw ff cv x1 x2 x4).2.1 = ff := by rw [hF]
    have hF2 : (fX3_needle kn kc kr kt kw ff cv x1 x2 x4).2.2.1 = cv := by rw [hF]
    have hF3 : (fX3_needle kn kc kr kt kw ff cv x1 x2 x4).2.2.2.1 = kn := by rw [hF]
    have hF4 : (fX3_needle kn kc kr kt kw ff cv x1 x2 x4).2.2.2.2 = (1 : Int32) := by rw [hF]
    exact W.iret hx hb hr (fun t ht hW => ⟨congrArg (fun z => Outcome.returned (some (Value.int z))) hF0.symm, ⟨g1, WM hP hK hD hKC0 hTC hS ht hW.alike, by rw [hF1, hF2, hF3, hF4]; exact ⟨hg_om, hg_fz, hg_cj, hrs⟩⟩, hS.F ht⟩) (fun q h => hS.2.2 q h) dX3_needle_91
  · refine lv_iload_n hx hb dX3_needle_24 rfl (lv_at hl 3 rfl) ?_
    refine lv_lload hx hb dX3_needle_25 (lv_at hl 0 rfl) ?_
    refine pc_0 (As := [.int x1, .long (fX3_own x1 x4)]) (rest := []) (r := .int (fX3_isNumber x1 (fX3_own x1 x4))) ⟨hx, hb, hml, hown, hts⟩ (c_X3_isNumber l x1 (fX3_own x1 x4)) (va_cwS 2 hts gX3_needle_X3_isNumber rfl rfl rfl hd_X3_isNumber ⟨Nat.le_of_ble_eq_true rfl, Nat.le_of_ble_eq_true rfl⟩) rfl hl.1 rfl (lv_room (Nat.le_of_ble_eq_true rfl)) dX3_needle_27 ⟨Nat.le_of_ble_eq_true rfl, Nat.le_of_ble_eq_true rfl⟩ ?_
    refine lv_if_eq (tgt := 53) hx hb dX3_needle_30 (by decide) (fun c_2 => ?_) (fun c_2 => ?_)
    · refine lv_iconst (v := 0) hx hb dX3_needle_53 (by decide) ?_
      refine lv_istore (lv' := [(10, .int (0 : Int32)), (8, .long (fX3_own x1 x4)), (6, .long (fX3_own x1 x2)), (0, .ref om), (1, .int x1), (2, .long x2), (4, .long x4)]) hx hb dX3_needle_54 hl (by decide) rfl (fun ls hl => ?_)
      refine lv_aload_n hx hb dX3_needle_56 rfl (lv_at hl 3 rfl) ?_
      refine lv_iload hx hb dX3_needle_57 (lv_at hl 0 rfl) ?_
      refine lv_if_ne (tgt := 66) hx hb dX3_needle_59 (by decide) (fun h9 => absurd h9 (by decide)) (fun _ => ?_)
      refine lv_iconst (v := 1) hx hb dX3_needle_62 (by decide) ?_
      refine lv_goto (tgt := 80) hx hb dX3_needle_63 (by decide) ?_
      refine pg_put (ty := .int) hx hb hts hin_X3_X3_needle tyX3 tyX3_ok nmX3 hown hK hP hD hS hL_om hg_om rfl 5 (by decide) (hts (.fieldLink RX3 17 "NeedleBoardModel" "thrown" "I") (by decide +kernel)) rfl (by decide +kernel) rfl rfl (Nat.le_of_ble_eq_true rfl) dX3_needle_80 (fun H locs hP hD hS => ?_)
      obtain ⟨g1, eg1⟩ : ∃ z : Nat → va_E, z = va_up g om (.inr (3, [.ref fz, .ref cj, .int kn, .int kc, .int kr, .int (1 : Int32), .long kw])) := ⟨_, rfl⟩
      have hP : va_P D vwCl (va_pl L g1) H := by rw [eg1]; exact hP
      have hD : va_D (fun q => q ∈ L) (va_pl L g1) := by rw [eg1]; exact hD
      have hg_om : g1 om = .inr (3, [.ref fz, .ref cj, .int kn, .int kc, .int kr, .int (1 : Int32), .long kw]) := by rw [eg1]; exact va_up_self _ _ _
      have hg_fz : g1 fz = .inl (cyZ, 8, .inl ff) := (congrFun eg1 fz).trans ((va_up_ne _ _ ne_fz_om).trans hg_fz)
      have hg_cj : g1 cj = .inl (cyJ, 56, .inr (.inl cv)) := (congrFun eg1 cj).trans ((va_up_ne _ _ ne_cj_om).trans hg_cj)
      have hrs : ∀ q : Nat, q ≠ om → q ≠ fz → q ≠ cj → g1 q = g q := fun q h_om h_fz h_cj => (congrFun eg1 q).trans ((va_up_ne _ _ h_om).trans (hrs q h_om h_fz h_cj))
      refine lv_aload_n hx hb dX3_needle_83 rfl (lv_at hl 3 rfl) ?_
      refine pg_get hx hb hts hin_X3_X3_needle hown hK hP hL_om hg_om rfl 5 (by decide) (hts (.fieldLink RX3 17 "NeedleBoardModel" "thrown" "I") (by decide +kernel)) rfl dX3_needle_84 ?_
      refine lv_if_le (tgt := 92) hx hb dX3_needle_87 (by decide) (fun h9 => absurd h9 (by decide)) (fun _ => ?_)
      refine lv_iconst (v := 0) hx hb dX3_needle_90 (by decide) ?_
      have hF : fX3_needle kn kc kr kt kw ff cv x1 x2 x4 = ((0 : Int32), ff, cv, kn, (1 : Int32)) := (by unfold fX3_needle; rw [if_neg c_1, if_pos c_2])
      have hF0 : (fX3_needle kn kc kr kt kw ff cv x1 x2 x4).1 = (0 : Int32) := by rw [hF]
      have hF1 : (fX3_needle kn kc kr kt kw ff cv x1 x2 x4).2.1 = ff := by rw [hF]
      have hF2 : (fX3_needle kn kc kr kt kw ff cv x1 x2 x4).2.2.1 = cv := by rw [hF]
      have hF3 : (fX3_needle kn kc kr kt kw ff cv x1 x2 x4).2.2.2.1 = kn := by rw [hF]
      have hF4 : (fX3_needle kn kc kr kt kw ff cv x1 x2 x4).2.2.2.2 = (1 : Int32) := by rw [hF]
      exact W.iret hx hb hr (fun t ht hW => ⟨congrArg (fun z => Outcome.returned (some (Value.int z))) hF0.symm, ⟨g1, WM hP hK hD hKC0 hTC hS ht hW.alike, by rw [hF1, hF2, hF3, hF4]; exact ⟨hg_om, hg_fz, hg_cj, hrs⟩⟩, hS.F ht⟩) (fun q h => hS.2.2 q h) dX3_needle_91
    · refine lv_iload_n hx hb dX3_needle_33 rfl (lv_at hl 3 rfl) ?_
      refine lv_lload hx hb dX3_needle_34 (lv_at hl 1 rfl) ?_
      refine pc_0 (As := [.int x1, .long (fX3_own x1 x2)]) (rest := []) (r := .long (fX3_rank x1 (fX3_own x1 x2))) ⟨hx, hb, hml, hown, hts⟩ (c_X3_rank l x1 (fX3_own x1 x2)) (va_cwS 2 hts gX3_needle_X3_rank rfl rfl rfl hd_X3_rank ⟨Nat.le_of_ble_eq_true rfl, Nat.le_of_ble_eq_true rfl⟩) rfl hl.1 rfl (lv_room (Nat.le_of_ble_eq_true rfl)) dX3_needle_36 ⟨Nat.le_of_ble_eq_true rfl, Nat.le_of_ble_eq_true rfl⟩ ?_
      refine lv_iload_n hx hb dX3_needle_39 rfl (lv_at hl 3 rfl) ?_
      refine lv_lload hx hb dX3_needle_40 (lv_at hl 0 rfl) ?_
      refine pc_0 (As := [.int x1, .long (fX3_own x1 x4)]) (rest := [.long (fX3_rank x1 (fX3_own x1 x2))]) (r := .long (fX3_rank x1 (fX3_own x1 x4))) ⟨hx, hb, hml, hown, hts⟩ (c_X3_rank l x1 (fX3_own x1 x4)) (va_cwS 2 hts gX3_needle_X3_rank rfl rfl rfl hd_X3_rank ⟨Nat.le_of_ble_eq_true rfl, Nat.le_of_ble_eq_true rfl⟩) rfl hl.1 rfl (lv_room (Nat.le_of_ble_eq_true rfl)) dX3_needle_42 ⟨Nat.le_of_ble_eq_true rfl, Nat.le_of_ble_eq_true rfl⟩ ?_
      refine pl_gt (tgt := 53) hx hb dX3_needle_45 dX3_needle_46 (by decide) (fun c_3 => ?_) (fun c_3 => ?_)
      · refine lv_iconst (v := 0) hx hb dX3_needle_53 (by decide) ?_
        refine lv_istore (lv' := [(10, .int (0 : Int32)), (8, .long (fX3_own x1 x4)), (6, .long (fX3_own x1 x2)), (0, .ref om), (1, .int x1), (2, .long x2), (4, .long x4)]) hx hb dX3_needle_54 hl (by decide) rfl (fun ls hl => ?_)
        refine lv_aload_n hx hb dX3_needle_56 rfl (lv_at hl 3 rfl) ?_
        refine lv_iload hx hb dX3_needle_57 (lv_at hl 0 rfl) ?_
        refine lv_if_ne (tgt := 66) hx hb dX3_needle_59 (by decide) (fun h9 => absurd h9 (by decide)) (fun _ => ?_)
        refine lv_iconst (v := 1) hx hb dX3_needle_62 (by decide) ?_
        refine lv_goto (tgt := 80) hx hb dX3_needle_63 (by decide) ?_
        refine pg_put (ty := .int) hx hb hts hin_X3_X3_needle tyX3 tyX3_ok nmX3 hown hK hP hD hS hL_om hg_om rfl 5 (by decide) (hts (.fieldLink RX3 17 "NeedleBoardModel" "thrown" "I") (by decide +kernel)) rfl (by decide +kernel) rfl rfl (Nat.le_of_ble_eq_true rfl) dX3_needle_80 (fun H locs hP hD hS => ?_)
        obtain ⟨g1, eg1⟩ : ∃ z : Nat → va_E, z = va_up g om (.inr (3, [.ref fz, .ref cj, .int kn, .int kc, .int kr, .int (1 : Int32), .long kw])) := ⟨_, rfl⟩
        have hP : va_P D vwCl (va_pl L g1) H := by rw [eg1]; exact hP
        have hD : va_D (fun q => q ∈ L) (va_pl L g1) := by rw [eg1]; exact hD
        have hg_om : g1 om = .inr (3, [.ref fz, .ref cj, .int kn, .int kc, .int kr, .int (1 : Int32), .long kw]) := by rw [eg1]; exact va_up_self _ _ _
        have hg_fz : g1 fz = .inl (cyZ, 8, .inl ff) := (congrFun eg1 fz).trans ((va_up_ne _ _ ne_fz_om).trans hg_fz)
        have hg_cj : g1 cj = .inl (cyJ, 56, .inr (.inl cv)) := (congrFun eg1 cj).trans ((va_up_ne _ _ ne_cj_om).trans hg_cj)
        have hrs : ∀ q : Nat, q ≠ om → q ≠ fz → q ≠ cj → g1 q = g q := fun q h_om h_fz h_cj => (congrFun eg1 q).trans ((va_up_ne _ _ h_om).trans (hrs q h_om h_fz h_cj))
        refine lv_aload_n hx hb dX3_needle_83 rfl (lv_at hl 3 rfl) ?_
        refine pg_get hx hb hts hin_X3_X3_needle hown hK hP hL_om hg_om rfl 5 (by decide) (hts (.fieldLink RX3 17 "NeedleBoardModel" "thrown" "I") (by decide +kernel)) rfl dX3_needle_84 ?_
        refine lv_if_le (tgt := 92) hx hb dX3_needle_87 (by decide) (fun h9 => absurd h9 (by decide)) (fun _ => ?_)
        refine lv_iconst (v := 0) hx hb dX3_needle_90 (by decide) ?_
        have hF : fX3_needle kn kc kr kt kw ff cv x1 x2 x4 = ((0 : Int32), ff, cv, kn, (1 : Int32)) := (by unfold fX3_needle; rw [if_neg c_1, if_neg c_2, if_pos c_3])
        have hF0 : (fX3_needle kn kc kr kt kw ff cv x1 x2 x4).1 = (0 : Int32) := by rw [hF]
        have hF1 : (fX3_needle kn kc kr kt kw ff cv x1 x2 x4).2.1 = ff := by rw [hF]
        have hF2 : (fX3_needle kn kc kr kt kw ff cv x1 x2 x4).2.2.1 = cv := by rw [hF]
        have hF3 : (fX3_needle kn kc kr kt kw ff cv x1 x2 x4).2.2.2.1 = kn := by rw [hF]
        have hF4 : (fX3_needle kn kc kr kt kw ff cv x1 x2 x4).2.2.2.2 = (1 : Int32) := by rw [hF]
        exact W.iret hx hb hr (fun t ht hW => ⟨congrArg (fun z => Outcome.returned (some (Value.int z))) hF0.symm, ⟨g1, WM hP hK hD hKC0 hTC hS ht hW.alike, by rw [hF1, hF2, hF3, hF4]; exact ⟨hg_om, hg_fz, hg_cj, hrs⟩⟩, hS.F ht⟩) (fun q h => hS.2.2 q h) dX3_needle_91
      · refine lv_iconst (v := 1) hx hb dX3_needle_49 (by decide) ?_
        refine lv_goto (tgt := 54) hx hb dX3_needle_50 (by decide) ?_
        refine lv_istore (lv' := [(10, .int (1 : Int32)), (8, .long (fX3_own x1 x4)), (6, .long (fX3_own x1 x2)), (0, .ref om), (1, .int x1), (2, .long x2), (4, .long x4)]) hx hb dX3_needle_54 hl (by decide) rfl (fun ls hl => ?_)
        refine lv_aload_n hx hb dX3_needle_56 rfl (lv_at hl 3 rfl) ?_
        refine lv_iload hx hb dX3_needle_57 (lv_at hl 0 rfl) ?_
        refine lv_if_ne (tgt := 66) hx hb dX3_needle_59 (by decide) (fun _ => ?_) (fun h9 => absurd h9 (by decide))
        refine lv_aload_n hx hb dX3_needle_66 rfl (lv_at hl 3 rfl) ?_
        refine pg_get hx hb hts hin_X3_X3_needle hown hK hP hL_om hg_om rfl 2 (by decide) (hts (.fieldLink RX3 67 "NeedleBoardModel" "needles" "I") (by decide +kernel)) rfl dX3_needle_67 ?_
        refine lv_bipush (v := (8)) hx hb dX3_needle_70 (by decide) ?_
        refine lv_icmp_ne (tgt := 79) hx hb dX3_needle_72 (by decide) (fun c_4 => ?_) (fun c_4 => ?_)
        · refine lv_iconst (v := 0) hx hb dX3_needle_79 (by decide) ?_
          refine pg_put (ty := .int) hx hb hts hin_X3_X3_needle tyX3 tyX3_ok nmX3 hown hK hP hD hS hL_om hg_om rfl 5 (by decide) (hts (.fieldLink RX3 17 "NeedleBoardModel" "thrown" "I") (by decide +kernel)) rfl (by decide +kernel) rfl rfl (Nat.le_of_ble_eq_true rfl) dX3_needle_80 (fun H locs hP hD hS => ?_)
          obtain ⟨g1, eg1⟩ : ∃ z : Nat → va_E, z = va_up g om (.inr (3, [.ref fz, .ref cj, .int kn, .int kc, .int kr, .int (0 : Int32), .long kw])) := ⟨_, rfl⟩
          have hP : va_P D vwCl (va_pl L g1) H := by rw [eg1]; exact hP
          have hD : va_D (fun q => q ∈ L) (va_pl L g1) := by rw [eg1]; exact hD
          have hg_om : g1 om = .inr (3, [.ref fz, .ref cj, .int kn, .int kc, .int kr, .int (0 : Int32), .long kw]) := by rw [eg1]; exact va_up_self _ _ _
          have hg_fz : g1 fz = .inl (cyZ, 8, .inl ff) := (congrFun eg1 fz).trans ((va_up_ne _ _ ne_fz_om).trans hg_fz)
          have hg_cj : g1 cj = .inl (cyJ, 56, .inr (.inl cv)) := (congrFun eg1 cj).trans ((va_up_ne _ _ ne_cj_om).trans hg_cj)
          have hrs : ∀ q : Nat, q ≠ om → q ≠ fz → q ≠ cj → g1 q = g q := fun q h_om h_fz h_cj => (congrFun eg1 q).trans ((va_up_ne _ _ h_om).trans (hrs q h_om h_fz h_cj))
          refine lv_aload_n hx hb dX3_needle_83 rfl (lv_at hl 3 rfl) ?_
          refine pg_get hx hb hts hin_X3_X3_needle hown hK hP hL_om hg_om rfl 5 (by decide) (hts (.fieldLink RX3 17 "NeedleBoardModel" "thrown" "I") (by decide +kernel)) rfl dX3_needle_84 ?_
          refine lv_if_le (tgt := 92) hx hb dX3_needle_87 (by decide) (fun _ => ?_) (fun h9 => absurd h9 (by decide))
          refine lv_aload_n hx hb dX3_needle_92 rfl (lv_at hl 3 rfl) ?_
          refine pg_get hx hb hts hin_X3_X3_needle hown hK hP hL_om hg_om rfl 0 (by decide) (hts (.fieldLink RX3 7 "NeedleBoardModel" "isFine" "[Z") (by decide +kernel)) rfl dX3_needle_93 ?_
          refine lv_aload_n hx hb dX3_needle_96 rfl (lv_at hl 3 rfl) ?_
          refine pg_get hx hb hts hin_X3_X3_needle hown hK hP hL_om hg_om rfl 2 (by decide) (hts (.fieldLink RX3 67 "NeedleBoardModel" "needles" "I") (by decide +kernel)) rfl dX3_needle_97 ?_
          refine lv_iload_n hx hb dX3_needle_100 rfl (lv_at hl 4 rfl) ?_
          refine pg_zast hx hb hK hP hD hS 1 hL_fz hg_fz htZ (kn_in hkn c_4) dX3_needle_101 (fun H locs hP hD hS => ?_)
          obtain ⟨g2, eg2⟩ : ∃ z : Nat → va_E, z = va_up g1 fz (.inl (cyZ, 8, .inl (upd ff kn.toNatClampNeg (vp_nar .boolean x1)))) := ⟨_, rfl⟩
          have hP : va_P D vwCl (va_pl L g2) H := by rw [eg2]; exact hP
          have hD : va_D (fun q => q ∈ L) (va_pl L g2) := by rw [eg2]; exact hD
          have hg_fz : g2 fz = .inl (cyZ, 8, .inl (upd ff kn.toNatClampNeg (vp_nar .boolean x1))) := by rw [eg2]; exact va_up_self _ _ _
          have hg_om : g2 om = .inr (3, [.ref fz, .ref cj, .int kn, .int kc, .int kr, .int (0 : Int32), .long kw]) := (congrFun eg2 om).trans ((va_up_ne _ _ ne_om_fz).trans hg_om)
          have hg_cj : g2 cj = .inl (cyJ, 56, .inr (.inl cv)) := (congrFun eg2 cj).trans ((va_up_ne _ _ ne_cj_fz).trans hg_cj)
          have hrs : ∀ q : Nat, q ≠ om → q ≠ fz → q ≠ cj → g2 q = g q := fun q h_om h_fz h_cj => (congrFun eg2 q).trans ((va_up_ne _ _ h_fz).trans (hrs q h_om h_fz h_cj))
          refine lv_aload_n hx hb dX3_needle_102 rfl (lv_at hl 3 rfl) ?_
          refine lv_aload_n hx hb dX3_needle_103 rfl (lv_at hl 3 rfl) ?_
          refine pg_get hx hb hts hin_X3_X3_needle hown hK hP hL_om hg_om rfl 2 (by decide) (hts (.fieldLink RX3 67 "NeedleBoardModel" "needles" "I") (by decide +kernel)) rfl dX3_needle_104 ?_
          refine lv_iconst (v := 0) hx hb dX3_needle_107 (by decide) ?_
          refine lv_lload hx hb dX3_needle_108 (lv_at hl 2 rfl) ?_
          refine mc_V (b := om) (As := [.int kn, .int (0 : Int32), .long (fX3_own x1 x2)]) (rest := []) ⟨hx, hb, hml, hown, hts⟩ (c_X3_set l D tys ad L g2  om fz cj kn kc kr (0 : Int32) kw (upd ff kn.toNatClampNeg (vp_nar .boolean x1)) cv kn (0 : Int32) (fX3_own x1 x2) hL_om hL_fz hL_cj hg_om hg_fz hg_cj ne_om_cj ne_fz_cj htJ htZ (ix_in (kn_in hkn c_4) (by unfold vp_in; decide))) (cwV 3 hts gX3_needle_X3_set rfl rfl rfl hd_X3_set ⟨Nat.le_of_ble_eq_true rfl, Nat.le_of_ble_eq_true rfl⟩) (pg_recv hK hP hL_om hg_om rfl) (fun U hU hvm => WM hP hK hD hKC0 hTC hS hU hvm) hXN hS (fun _ h => h) rfl hl.1 rfl (lv_room (Nat.le_of_ble_eq_true rfl)) dX3_needle_110 ⟨Nat.le_of_ble_eq_true rfl, Nat.le_of_ble_eq_true rfl⟩ (fun g3 H locs hp9 hP hD hS => ?_)
          refine W.eq (g2 := F0 m 113 ls []) rfl ?_
          obtain ⟨hn9_cj, hr9⟩ := hp9
          have hg_om : g3 om = .inr (3, [.ref fz, .ref cj, .int kn, .int kc, .int kr, .int (0 : Int32), .long kw]) := (hr9 om ne_om_cj).trans hg_om
          have hg_fz : g3 fz = .inl (cyZ, 8, .inl (upd ff kn.toNatClampNeg (vp_nar .boolean x1))) := (hr9 fz ne_fz_cj).trans hg_fz
          have hg_cj : g3 cj = .inl (cyJ, 56, .inr (.inl (fX3_set kn kc kr (0 : Int32) kw (upd ff kn.toNatClampNeg (vp_nar .boolean x1)) cv kn (0 : Int32) (fX3_own x1 x2)))) := hn9_cj
          have hrs : ∀ q : Nat, q ≠ om → q ≠ fz → q ≠ cj → g3 q = g q := fun q h_om h_fz h_cj => (hr9 q h_cj).trans (hrs q h_om h_fz h_cj)
          refine lv_aload_n hx hb dX3_needle_113 rfl (lv_at hl 3 rfl) ?_
          refine lv_aload_n hx hb dX3_needle_114 rfl (lv_at hl 3 rfl) ?_
          refine pg_get hx hb hts hin_X3_X3_needle hown hK hP hL_om hg_om rfl 2 (by decide) (hts (.fieldLink RX3 67 "NeedleBoardModel" "needles" "I") (by decide +kernel)) rfl dX3_needle_115 ?_
          refine lv_iconst (v := 1) hx hb dX3_needle_118 (by decide) ?_
          refine lv_lload hx hb dX3_needle_119 (lv_at hl 1 rfl) ?_
          refine mc_V (b := om) (As := [.int kn, .int (1 : Int32), .long (fX3_own x1 x4)]) (rest := []) ⟨hx, hb, hml, hown, hts⟩ (c_X3_set l D tys ad L g3  om fz cj kn kc kr (0 : Int32) kw (upd ff kn.toNatClampNeg (vp_nar .boolean x1)) (fX3_set kn kc kr (0 : Int32) kw (upd ff kn.toNatClampNeg (vp_nar .boolean x1)) cv kn (0 : Int32) (fX3_own x1 x2)) kn (1 : Int32) (fX3_own x1 x4) hL_om hL_fz hL_cj hg_om hg_fz hg_cj ne_om_cj ne_fz_cj htJ htZ (ix_in (kn_in hkn c_4) (by unfold vp_in; decide))) (cwV 3 hts gX3_needle_X3_set rfl rfl rfl hd_X3_set ⟨Nat.le_of_ble_eq_true rfl, Nat.le_of_ble_eq_true rfl⟩) (pg_recv hK hP hL_om hg_om rfl) (fun U hU hvm => WM hP hK hD hKC0 hTC hS hU hvm) hXN hS (fun _ h => h) rfl hl.1 rfl (lv_room (Nat.le_of_ble_eq_true rfl)) dX3_needle_121 ⟨Nat.le_of_ble_eq_true rfl, Nat.le_of_ble_eq_true rfl⟩ (fun g4 H locs hp9 hP hD hS => ?_)
          refine W.eq (g2 := F0 m 124 ls []) rfl ?_
          obtain ⟨hn9_cj, hr9⟩ := hp9
          have hg_om : g4 om = .inr (3, [.ref fz, .ref cj, .int kn, .int kc, .int kr, .int (0 : Int32), .long kw]) := (hr9 om ne_om_cj).trans hg_om
          have hg_fz : g4 fz = .inl (cyZ, 8, .inl (upd ff kn.toNatClampNeg (vp_nar .boolean x1))) := (hr9 fz ne_fz_cj).trans hg_fz
          have hg_cj : g4 cj = .inl (cyJ, 56, .inr (.inl (fX3_set kn kc kr (0 : Int32) kw (upd ff kn.toNatClampNeg (vp_nar .boolean x1)) (fX3_set kn kc kr (0 : Int32) kw (upd ff kn.toNatClampNeg (vp_nar .boolean x1)) cv kn (0 : Int32) (fX3_own x1 x2)) kn (1 : Int32) (fX3_own x1 x4)))) := hn9_cj
          have hrs : ∀ q : Nat, q ≠ om → q ≠ fz → q ≠ cj → g4 q = g q := fun q h_om h_fz h_cj => (hr9 q h_cj).trans (hrs q h_om h_fz h_cj)
          refine lv_aload_n hx hb dX3_needle_124 rfl (lv_at hl 3 rfl) ?_
          refine lv_aload_n hx hb dX3_needle_125 rfl (lv_at hl 3 rfl) ?_
          refine pg_get hx hb hts hin_X3_X3_needle hown hK hP hL_om hg_om rfl 2 (by decide) (hts (.fieldLink RX3 67 "NeedleBoardModel" "needles" "I") (by decide +kernel)) rfl dX3_needle_126 ?_
          refine lv_iconst (v := 3) hx hb dX3_needle_129 (by decide) ?_
          refine lv_iload_n hx hb dX3_needle_130 rfl (lv_at hl 4 rfl) ?_
          refine lv_if_eq (tgt := 140) hx hb dX3_needle_131 (by decide) (fun c_5 => ?_) (fun c_5 => ?_)
          · refine lv_ldc2 (v := (2139095040)) hx hb hown (hts (.constantLong RX3 31 (2139095040)) (by decide +kernel)) dX3_needle_140 ?_
            refine mc_V (b := om) (As := [.int kn, .int (3 : Int32), .long (2139095040 : Int64)]) (rest := []) ⟨hx, hb, hml, hown, hts⟩ (c_X3_set l D tys ad L g4  om fz cj kn kc kr (0 : Int32) kw (upd ff kn.toNatClampNeg (vp_nar .boolean x1)) (fX3_set kn kc kr (0 : Int32) kw (upd ff kn.toNatClampNeg (vp_nar .boolean x1)) (fX3_set kn kc kr (0 : Int32) kw (upd ff kn.toNatClampNeg (vp_nar .boolean x1)) cv kn (0 : Int32) (fX3_own x1 x2)) kn (1 : Int32) (fX3_own x1 x4)) kn (3 : Int32) (2139095040 : Int64) hL_om hL_fz hL_cj hg_om hg_fz hg_cj ne_om_cj ne_fz_cj htJ htZ (ix_in (kn_in hkn c_4) (by unfold vp_in; decide))) (cwV 3 hts gX3_needle_X3_set rfl rfl rfl hd_X3_set ⟨Nat.le_of_ble_eq_true rfl, Nat.le_of_ble_eq_true rfl⟩) (pg_recv hK hP hL_om hg_om rfl) (fun U hU hvm => WM hP hK hD hKC0 hTC hS hU hvm) hXN hS (fun _ h => h) rfl hl.1 rfl (lv_room (Nat.le_of_ble_eq_true rfl)) dX3_needle_143 ⟨Nat.le_of_ble_eq_true rfl, Nat.le_of_ble_eq_true rfl⟩ (fun g5 H locs hp9 hP hD hS => ?_)
            refine W.eq (g2 := F0 m 146 ls []) rfl ?_
            obtain ⟨hn9_cj, hr9⟩ := hp9
            have hg_om : g5 om = .inr (3, [.ref fz, .ref cj, .int kn, .int kc, .int kr, .int (0 : Int32), .long kw]) := (hr9 om ne_om_cj).trans hg_om
            have hg_fz : g5 fz = .inl (cyZ, 8, .inl (upd ff kn.toNatClampNeg (vp_nar .boolean x1))) := (hr9 fz ne_fz_cj).trans hg_fz
            have hg_cj : g5 cj = .inl (cyJ, 56, .inr (.inl (fX3_set kn kc kr (0 : Int32) kw (upd ff kn.toNatClampNeg (vp_nar .boolean x1)) (fX3_set kn kc kr (0 : Int32) kw (upd ff kn.toNatClampNeg (vp_nar .boolean x1)) (fX3_set kn kc kr (0 : Int32) kw (upd ff kn.toNatClampNeg (vp_nar .boolean x1)) cv kn (0 : Int32) (fX3_own x1 x2)) kn (1 : Int32) (fX3_own x1 x4)) kn (3 : Int32) (2139095040 : Int64)))) := hn9_cj
            have hrs : ∀ q : Nat, q ≠ om → q ≠ fz → q ≠ cj → g5 q = g q := fun q h_om h_fz h_cj => (hr9 q h_cj).trans (hrs q h_om h_fz h_cj)
            refine lv_aload_n hx hb dX3_needle_146 rfl (lv_at hl 3 rfl) ?_
            refine lv_aload_n hx hb dX3_needle_147 rfl (lv_at hl 3 rfl) ?_
            refine pg_get hx hb hts hin_X3_X3_needle hown hK hP hL_om hg_om rfl 2 (by decide) (hts (.fieldLink RX3 67 "NeedleBoardModel" "needles" "I") (by decide +kernel)) rfl dX3_needle_148 ?_
            refine mc_V (b := om) (As := [.int kn]) (rest := []) ⟨hx, hb, hml, hown, hts⟩ (c_X3_fresh l D tys ad L g5  om fz cj kn kc kr (0 : Int32) kw (upd ff kn.toNatClampNeg (vp_nar .boolean x1)) (fX3_set kn kc kr (0 : Int32) kw (upd ff kn.toNatClampNeg (vp_nar .boolean x1)) (fX3_set kn kc kr (0 : Int32) kw (upd ff kn.toNatClampNeg (vp_nar .boolean x1)) (fX3_set kn kc kr (0 : Int32) kw (upd ff kn.toNatClampNeg (vp_nar .boolean x1)) cv kn (0 : Int32) (fX3_own x1 x2)) kn (1 : Int32) (fX3_own x1 x4)) kn (3 : Int32) (2139095040 : Int64)) kn hL_om hL_fz hL_cj hg_om hg_fz hg_cj ne_om_cj ne_fz_cj htJ htZ (kn_in hkn c_4)) (cwV 1 hts gX3_needle_X3_fresh rfl rfl rfl hd_X3_fresh ⟨Nat.le_of_ble_eq_true rfl, Nat.le_of_ble_eq_true rfl⟩) (pg_recv hK hP hL_om hg_om rfl) (fun U hU hvm => WM hP hK hD hKC0 hTC hS hU hvm) hXN hS (fun _ h => h) rfl hl.1 rfl (lv_room (Nat.le_of_ble_eq_true rfl)) dX3_needle_151 ⟨Nat.le_of_ble_eq_true rfl, Nat.le_of_ble_eq_true rfl⟩ (fun g6 H locs hp9 hP hD hS => ?_)
            refine W.eq (g2 := F0 m 154 ls []) rfl ?_
            obtain ⟨hn9_cj, hr9⟩ := hp9
            have hg_om : g6 om = .inr (3, [.ref fz, .ref cj, .int kn, .int kc, .int kr, .int (0 : Int32), .long kw]) := (hr9 om ne_om_cj).trans hg_om
            have hg_fz : g6 fz = .inl (cyZ, 8, .inl (upd ff kn.toNatClampNeg (vp_nar .boolean x1))) := (hr9 fz ne_fz_cj).trans hg_fz
            have hg_cj : g6 cj = .inl (cyJ, 56, .inr (.inl (fX3_fresh kn kc kr (0 : Int32) kw (upd ff kn.toNatClampNeg (vp_nar .boolean x1)) (fX3_set kn kc kr (0 : Int32) kw (upd ff kn.toNatClampNeg (vp_nar .boolean x1)) (fX3_set kn kc kr (0 : Int32) kw (upd ff kn.toNatClampNeg (vp_nar .boolean x1)) (fX3_set kn kc kr (0 : Int32) kw (upd ff kn.toNatClampNeg (vp_nar .boolean x1)) cv kn (0 : Int32) (fX3_own x1 x2)) kn (1 : Int32) (fX3_own x1 x4)) kn (3 : Int32) (2139095040 : Int64)) kn))) := hn9_cj
            have hrs : ∀ q : Nat, q ≠ om → q ≠ fz → q ≠ cj → g6 q = g q := fun q h_om h_fz h_cj => (hr9 q h_cj).trans (hrs q h_om h_fz h_cj)
            refine lv_aload_n hx hb dX3_needle_154 rfl (lv_at hl 3 rfl) ?_
            refine lv_dup hx hb dX3_needle_155 rfl ?_
            refine pg_get hx hb hts hin_X3_X3_needle hown hK hP hL_om hg_om rfl 2 (by decide) (hts (.fieldLink RX3 67 "NeedleBoardModel" "needles" "I") (by decide +kernel)) rfl dX3_needle_156 ?_
            refine lv_iconst (v := 1) hx hb dX3_needle_159 (by decide) ?_
            refine lv_iadd hx hb dX3_needle_160 ?_
            refine pg_put (ty := .int) hx hb hts hin_X3_X3_needle tyX3 tyX3_ok nmX3 hown hK hP hD hS hL_om hg_om rfl 2 (by decide) (hts (.fieldLink RX3 67 "NeedleBoardModel" "needles" "I") (by decide +kernel)) rfl (by decide +kernel) rfl rfl (Nat.le_of_ble_eq_true rfl) dX3_needle_161 (fun H locs hP hD hS => ?_)
            obtain ⟨g7, eg7⟩ : ∃ z : Nat → va_E, z = va_up g6 om (.inr (3, [.ref fz, .ref cj, .int (kn + (1 : Int32)), .int kc, .int kr, .int (0 : Int32), .long kw])) := ⟨_, rfl⟩
            have hP : va_P D vwCl (va_pl L g7) H := by rw [eg7]; exact hP
            have hD : va_D (fun q => q ∈ L) (va_pl L g7) := by rw [eg7]; exact hD
            have hg_om : g7 om = .inr (3, [.ref fz, .ref cj, .int (kn + (1 : Int32)), .int kc, .int kr, .int (0 : Int32), .long kw]) := by rw [eg7]; exact va_up_self _ _ _
            have hg_fz : g7 fz = .inl (cyZ, 8, .inl (upd ff kn.toNatClampNeg (vp_nar .boolean x1))) := (congrFun eg7 fz).trans ((va_up_ne _ _ ne_fz_om).trans hg_fz)
            have hg_cj : g7 cj = .inl (cyJ, 56, .inr (.inl (fX3_fresh kn kc kr (0 : Int32) kw (upd ff kn.toNatClampNeg (vp_nar .boolean x1)) (fX3_set kn kc kr (0 : Int32) kw (upd ff kn.toNatClampNeg (vp_nar .boolean x1)) (fX3_set kn kc kr (0 : Int32) kw (upd ff kn.toNatClampNeg (vp_nar .boolean x1)) (fX3_set kn kc kr (0 : Int32) kw (upd ff kn.toNatClampNeg (vp_nar .boolean x1)) cv kn (0 : Int32) (fX3_own x1 x2)) kn (1 : Int32) (fX3_own x1 x4)) kn (3 : Int32) (2139095040 : Int64)) kn))) := (congrFun eg7 cj).trans ((va_up_ne _ _ ne_cj_om).trans hg_cj)
            have hrs : ∀ q : Nat, q ≠ om → q ≠ fz → q ≠ cj → g7 q = g q := fun q h_om h_fz h_cj => (congrFun eg7 q).trans ((va_up_ne _ _ h_om).trans (hrs q h_om h_fz h_cj))
            refine lv_aload_n hx hb dX3_needle_164 rfl (lv_at hl 3 rfl) ?_
            refine pg_get hx hb hts hin_X3_X3_needle hown hK hP hL_om hg_om rfl 2 (by decide) (hts (.fieldLink RX3 67 "NeedleBoardModel" "needles" "I") (by decide +kernel)) rfl dX3_needle_165 ?_
            refine lv_iconst (v := 1) hx hb dX3_needle_168 (by decide) ?_
            refine lv_isub hx hb dX3_needle_169 ?_
            have hF : fX3_needle kn kc kr kt kw ff cv x1 x2 x4 = ((kn + (1 : Int32)) - (1 : Int32), upd ff kn.toNatClampNeg (vp_nar .boolean x1), fX3_fresh kn kc kr (0 : Int32) kw (upd ff kn.toNatClampNeg (vp_nar .boolean x1)) (fX3_set kn kc kr (0 : Int32) kw (upd ff kn.toNatClampNeg (vp_nar .boolean x1)) (fX3_set kn kc kr (0 : Int32) kw (upd ff kn.toNatClampNeg (vp_nar .boolean x1)) (fX3_set kn kc kr (0 : Int32) kw (upd ff kn.toNatClampNeg (vp_nar .boolean x1)) cv kn (0 : Int32) (fX3_own x1 x2)) kn (1 : Int32) (fX3_own x1 x4)) kn (3 : Int32) (2139095040 : Int64)) kn, kn + (1 : Int32), (0 : Int32)) := (by unfold fX3_needle; rw [if_neg c_1, if_neg c_2, if_neg c_3, if_neg c_4, if_pos c_5])
            have hF0 : (fX3_needle kn kc kr kt kw ff cv x1 x2 x4).1 = (kn + (1 : Int32)) - (1 : Int32) := by rw [hF]
            have hF1 : (fX3_needle kn kc kr kt kw ff cv x1 x2 x4).2.1 = upd ff kn.toNatClampNeg (vp_nar .boolean x1) := by rw [hF]
            have hF2 : (fX3_needle kn kc kr kt kw ff cv x1 x2 x4).2.2.1 = fX3_fresh kn kc kr (0 : Int32) kw (upd ff kn.toNatClampNeg (vp_nar .boolean x1)) (fX3_set kn kc kr (0 : Int32) kw (upd ff kn.toNatClampNeg (vp_nar .boolean x1)) (fX3_set kn kc kr (0 : Int32) kw (upd ff kn.toNatClampNeg (vp_nar .boolean x1)) (fX3_set kn kc kr (0 : Int32) kw (upd ff kn.toNatClampNeg (vp_nar .boolean x1)) cv kn (0 : Int32) (fX3_own x1 x2)) kn (1 : Int32) (fX3_own x1 x4)) kn (3 : Int32) (2139095040 : Int64)) kn := by rw [hF]
            have hF3 : (fX3_needle kn kc kr kt kw ff cv x1 x2 x4).2.2.2.1 = kn + (1 : Int32) := by rw [hF]
            have hF4 : (fX3_needle kn kc kr kt kw ff cv x1 x2 x4).2.2.2.2 = (0 : Int32) := by rw [hF]
            exact W.iret hx hb hr (fun t ht hW => ⟨congrArg (fun z => Outcome.returned (some (Value.int z))) hF0.symm, ⟨g7, WM hP hK hD hKC0 hTC hS ht hW.alike, by rw [hF1, hF2, hF3, hF4]; exact ⟨hg_om, hg_fz, hg_cj, hrs⟩⟩, hS.F ht⟩) (fun q h => hS.2.2 q h) dX3_needle_170
          · refine lv_ldc2 (v := (9218868437227405312)) hx hb hown (hts (.constantLong RX3 29 (9218868437227405312)) (by decide +kernel)) dX3_needle_134 ?_
            refine lv_goto (tgt := 143) hx hb dX3_needle_137 (by decide) ?_
            refine mc_V (b := om) (As := [.int kn, .int (3 : Int32), .long (9218868437227405312 : Int64)]) (rest := []) ⟨hx, hb, hml, hown, hts⟩ (c_X3_set l D tys ad L g4  om fz cj kn kc kr (0 : Int32) kw (upd ff kn.toNatClampNeg (vp_nar .boolean x1)) (fX3_set kn kc kr (0 : Int32) kw (upd ff kn.toNatClampNeg (vp_nar .boolean x1)) (fX3_set kn kc kr (0 : Int32) kw (upd ff kn.toNatClampNeg (vp_nar .boolean x1)) cv kn (0 : Int32) (fX3_own x1 x2)) kn (1 : Int32) (fX3_own x1 x4)) kn (3 : Int32) (9218868437227405312 : Int64) hL_om hL_fz hL_cj hg_om hg_fz hg_cj ne_om_cj ne_fz_cj htJ htZ (ix_in (kn_in hkn c_4) (by unfold vp_in; decide))) (cwV 3 hts gX3_needle_X3_set rfl rfl rfl hd_X3_set ⟨Nat.le_of_ble_eq_true rfl, Nat.le_of_ble_eq_true rfl⟩) (pg_recv hK hP hL_om hg_om rfl) (fun U hU hvm => WM hP hK hD hKC0 hTC hS hU hvm) hXN hS (fun _ h => h) rfl hl.1 rfl (lv_room (Nat.le_of_ble_eq_true rfl)) dX3_needle_143 ⟨Nat.le_of_ble_eq_true rfl, Nat.le_of_ble_eq_true rfl⟩ (fun g5 H locs hp9 hP hD hS => ?_)
            refine W.eq (g2 := F0 m 146 ls []) rfl ?_
            obtain ⟨hn9_cj, hr9⟩ := hp9
            have hg_om : g5 om = .inr (3, [.ref fz, .ref cj, .int kn, .int kc, .int kr, .int (0 : Int32), .long kw]) := (hr9 om ne_om_cj).trans hg_om
            have hg_fz : g5 fz = .inl (cyZ, 8, .inl (upd ff kn.toNatClampNeg (vp_nar .boolean x1))) := (hr9 fz ne_fz_cj).trans hg_fz
            have hg_cj : g5 cj = .inl (cyJ, 56, .inr (.inl (fX3_set kn kc kr (0 : Int32) kw (upd ff kn.toNatClampNeg (vp_nar .boolean x1)) (fX3_set kn kc kr (0 : Int32) kw (upd ff kn.toNatClampNeg (vp_nar .boolean x1)) (fX3_set kn kc kr (0 : Int32) kw (upd ff kn.toNatClampNeg (vp_nar .boolean x1)) cv kn (0 : Int32) (fX3_own x1 x2)) kn (1 : Int32) (fX3_own x1 x4)) kn (3 : Int32) (9218868437227405312 : Int64)))) := hn9_cj
            have hrs : ∀ q : Nat, q ≠ om → q ≠ fz → q ≠ cj → g5 q = g q := fun q h_om h_fz h_cj => (hr9 q h_cj).trans (hrs q h_om h_fz h_cj)
            refine lv_aload_n hx hb dX3_needle_146 rfl (lv_at hl 3 rfl) ?_
            refine lv_aload_n hx hb dX3_needle_147 rfl (lv_at hl 3 rfl) ?_
            refine pg_get hx hb hts hin_X3_X3_needle hown hK hP hL_om hg_om rfl 2 (by decide) (hts (.fieldLink RX3 67 "NeedleBoardModel" "needles" "I") (by decide +kernel)) rfl dX3_needle_148 ?_
            refine mc_V (b := om) (As := [.int kn]) (rest := []) ⟨hx, hb, hml, hown, hts⟩ (c_X3_fresh l D tys ad L g5  om fz cj kn kc kr (0 : Int32) kw (upd ff kn.toNatClampNeg (vp_nar .boolean x1)) (fX3_set kn kc kr (0 : Int32) kw (upd ff kn.toNatClampNeg (vp_nar .boolean x1)) (fX3_set kn kc kr (0 : Int32) kw (upd ff kn.toNatClampNeg (vp_nar .boolean x1)) (fX3_set kn kc kr (0 : Int32) kw (upd ff kn.toNatClampNeg (vp_nar .boolean x1)) cv kn (0 : Int32) (fX3_own x1 x2)) kn (1 : Int32) (fX3_own x1 x4)) kn (3 : Int32) (9218868437227405312 : Int64)) kn hL_om hL_fz hL_cj hg_om hg_fz hg_cj ne_om_cj ne_fz_cj htJ htZ (kn_in hkn c_4)) (cwV 1 hts gX3_needle_X3_fresh rfl rfl rfl hd_X3_fresh ⟨Nat.le_of_ble_eq_true rfl, Nat.le_of_ble_eq_true rfl⟩) (pg_recv hK hP hL_om hg_om rfl) (fun U hU hvm => WM hP hK hD hKC0 hTC hS hU hvm) hXN hS (fun _ h => h) rfl hl.1 rfl (lv_room (Nat.le_of_ble_eq_true rfl)) dX3_needle_151 ⟨Nat.le_of_ble_eq_true rfl, Nat.le_of_ble_eq_true rfl⟩ (fun g6 H locs hp9 hP hD hS => ?_)
            refine W.eq (g2 := F0 m 154 ls []) rfl ?_
            obtain ⟨hn9_cj, hr9⟩ := hp9
            have hg_om : g6 om = .inr (3, [.ref fz, .ref cj, .int kn, .int kc, .int kr, .int (0 : Int32), .long kw]) := (hr9 om ne_om_cj).trans hg_om
            have hg_fz : g6 fz = .inl (cyZ, 8, .inl (upd ff kn.toNatClampNeg (vp_nar .boolean x1))) := (hr9 fz ne_fz_cj).trans hg_fz
            have hg_cj : g6 cj = .inl (cyJ, 56, .inr (.inl (fX3_fresh kn kc kr (0 : Int32) kw (upd ff kn.toNatClampNeg (vp_nar .boolean x1)) (fX3_set kn kc kr (0 : Int32) kw (upd ff kn.toNatClampNeg (vp_nar .boolean x1)) (fX3_set kn kc kr (0 : Int32) kw (upd ff kn.toNatClampNeg (vp_nar .boolean x1)) (fX3_set kn kc kr (0 : Int32) kw (upd ff kn.toNatClampNeg (vp_nar .boolean x1)) cv kn (0 : Int32) (fX3_own x1 x2)) kn (1 : Int32) (fX3_own x1 x4)) kn (3 : Int32) (9218868437227405312 : Int64)) kn))) := hn9_cj
            have hrs : ∀ q : Nat, q ≠ om → q ≠ fz → q ≠ cj → g6 q = g q := fun q h_om h_fz h_cj => (hr9 q h_cj).trans (hrs q h_om h_fz h_cj)
            refine lv_aload_n hx hb dX3_needle_154 rfl (lv_at hl 3 rfl) ?_
            refine lv_dup hx hb dX3_needle_155 rfl ?_
            refine pg_get hx hb hts hin_X3_X3_needle hown hK hP hL_om hg_om rfl 2 (by decide) (hts (.fieldLink RX3 67 "NeedleBoardModel" "needles" "I") (by decide +kernel)) rfl dX3_needle_156 ?_
            refine lv_iconst (v := 1) hx hb dX3_needle_159 (by decide) ?_
            refine lv_iadd hx hb dX3_needle_160 ?_
            refine pg_put (ty := .int) hx hb hts hin_X3_X3_needle tyX3 tyX3_ok nmX3 hown hK hP hD hS hL_om hg_om rfl 2 (by decide) (hts (.fieldLink RX3 67 "NeedleBoardModel" "needles" "I") (by decide +kernel)) rfl (by decide +kernel) rfl rfl (Nat.le_of_ble_eq_true rfl) dX3_needle_161 (fun H locs hP hD hS => ?_)
            obtain ⟨g7, eg7⟩ : ∃ z : Nat → va_E, z = va_up g6 om (.inr (3, [.ref fz, .ref cj, .int (kn + (1 : Int32)), .int kc, .int kr, .int (0 : Int32), .long kw])) := ⟨_, rfl⟩
            have hP : va_P D vwCl (va_pl L g7) H := by rw [eg7]; exact hP
            have hD : va_D (fun q => q ∈ L) (va_pl L g7) := by rw [eg7]; exact hD
            have hg_om : g7 om = .inr (3, [.ref fz, .ref cj, .int (kn + (1 : Int32)), .int kc, .int kr, .int (0 : Int32), .long kw]) := by rw [eg7]; exact va_up_self _ _ _
            have hg_fz : g7 fz = .inl (cyZ, 8, .inl (upd ff kn.toNatClampNeg (vp_nar .boolean x1))) := (congrFun eg7 fz).trans ((va_up_ne _ _ ne_fz_om).trans hg_fz)
            have hg_cj : g7 cj = .inl (cyJ, 56, .inr (.inl (fX3_fresh kn kc kr (0 : Int32) kw (upd ff kn.toNatClampNeg (vp_nar .boolean x1)) (fX3_set kn kc kr (0 : Int32) kw (upd ff kn.toNatClampNeg (vp_nar .boolean x1)) (fX3_set kn kc kr (0 : Int32) kw (upd ff kn.toNatClampNeg (vp_nar .boolean x1)) (fX3_set kn kc kr (0 : Int32) kw (upd ff kn.toNatClampNeg (vp_nar .boolean x1)) cv kn (0 : Int32) (fX3_own x1 x2)) kn (1 : Int32) (fX3_own x1 x4)) kn (3 : Int32) (9218868437227405312 : Int64)) kn))) := (congrFun eg7 cj).trans ((va_up_ne _ _ ne_cj_om).trans hg_cj)
            have hrs : ∀ q : Nat, q ≠ om → q ≠ fz → q ≠ cj → g7 q = g q := fun q h_om h_fz h_cj => (congrFun eg7 q).trans ((va_up_ne _ _ h_om).trans (hrs q h_om h_fz h_cj))
            refine lv_aload_n hx hb dX3_needle_164 rfl (lv_at hl 3 rfl) ?_
            refine pg_get hx hb hts hin_X3_X3_needle hown hK hP hL_om hg_om rfl 2 (by decide) (hts (.fieldLink RX3 67 "NeedleBoardModel" "needles" "I") (by decide +kernel)) rfl dX3_needle_165 ?_
            refine lv_iconst (v := 1) hx hb dX3_needle_168 (by decide) ?_
            refine lv_isub hx hb dX3_needle_169 ?_
            have hF : fX3_needle kn kc kr kt kw ff cv x1 x2 x4 = ((kn + (1 : Int32)) - (1 : Int32), upd ff kn.toNatClampNeg (vp_nar .boolean x1), fX3_fresh kn kc kr (0 : Int32) kw (upd ff kn.toNatClampNeg (vp_nar .boolean x1)) (fX3_set kn kc kr (0 : Int32) kw (upd ff kn.toNatClampNeg (vp_nar .boolean x1)) (fX3_set kn kc kr (0 : Int32) kw (upd ff kn.toNatClampNeg (vp_nar .boolean x1)) (fX3_set kn kc kr (0 : Int32) kw (upd ff kn.toNatClampNeg (vp_nar .boolean x1)) cv kn (0 : Int32) (fX3_own x1 x2)) kn (1 : Int32) (fX3_own x1 x4)) kn (3 : Int32) (9218868437227405312 : Int64)) kn, kn + (1 : Int32), (0 : Int32)) := (by unfold fX3_needle; rw [if_neg c_1, if_neg c_2, if_neg c_3, if_neg c_4, if_neg c_5])
            have hF0 : (fX3_needle kn kc kr kt kw ff cv x1 x2 x4).1 = (kn + (1 : Int32)) - (1 : Int32) := by rw [hF]
            have hF1 : (fX3_needle kn kc kr kt kw ff cv x1 x2 x4).2.1 = upd ff kn.toNatClampNeg (vp_nar .boolean x1) := by rw [hF]
            have hF2 : (fX3_needle kn kc kr kt kw ff cv x1 x2 x4).2.2.1 = fX3_fresh kn kc kr (0 : Int32) kw (upd ff kn.toNatClampNeg (vp_nar .boolean x1)) (fX3_set kn kc kr (0 : Int32) kw (upd ff kn.toNatClampNeg (vp_nar .boolean x1)) (fX3_set kn kc kr (0 : Int32) kw (upd ff kn.toNatClampNeg (vp_nar .boolean x1)) (fX3_set kn kc kr (0 : Int32) kw (upd ff kn.toNatClampNeg (vp_nar .boolean x1)) cv kn (0 : Int32) (fX3_own x1 x2)) kn (1 : Int32) (fX3_own x1 x4)) kn (3 : Int32) (9218868437227405312 : Int64)) kn := by rw [hF]
            have hF3 : (fX3_needle kn kc kr kt kw ff cv x1 x2 x4).2.2.2.1 = kn + (1 : Int32) := by rw [hF]
            have hF4 : (fX3_needle kn kc kr kt kw ff cv x1 x2 x4).2.2.2.2 = (0 : Int32) := by rw [hF]
            exact W.iret hx hb hr (fun t ht hW => ⟨congrArg (fun z => Outcome.returned (some (Value.int z))) hF0.symm, ⟨g7, WM hP hK hD hKC0 hTC hS ht hW.alike, by rw [hF1, hF2, hF3, hF4]; exact ⟨hg_om, hg_fz, hg_cj, hrs⟩⟩, hS.F ht⟩) (fun q h => hS.2.2 q h) dX3_needle_170
        · refine lv_iconst (v := 2) hx hb dX3_needle_75 (by decide) ?_
          refine lv_goto (tgt := 80) hx hb dX3_needle_76 (by decide) ?_
          refine pg_put (ty := .int) hx hb hts hin_X3_X3_needle tyX3 tyX3_ok nmX3 hown hK hP hD hS hL_om hg_om rfl 5 (by decide) (hts (.fieldLink RX3 17 "NeedleBoardModel" "thrown" "I") (by decide +kernel)) rfl (by decide +kernel) rfl rfl (Nat.le_of_ble_eq_true rfl) dX3_needle_80 (fun H locs hP hD hS => ?_)
          obtain ⟨g1, eg1⟩ : ∃ z : Nat → va_E, z = va_up g om (.inr (3, [.ref fz, .ref cj, .int kn, .int kc, .int kr, .int (2 : Int32), .long kw])) := ⟨_, rfl⟩
          have hP : va_P D vwCl (va_pl L g1) H := by rw [eg1]; exact hP
          have hD : va_D (fun q => q ∈ L) (va_pl L g1) := by rw [eg1]; exact hD
          have hg_om : g1 om = .inr (3, [.ref fz, .ref cj, .int kn, .int kc, .int kr, .int (2 : Int32), .long kw]) := by rw [eg1]; exact va_up_self _ _ _
          have hg_fz : g1 fz = .inl (cyZ, 8, .inl ff) := (congrFun eg1 fz).trans ((va_up_ne _ _ ne_fz_om).trans hg_fz)
          have hg_cj : g1 cj = .inl (cyJ, 56, .inr (.inl cv)) := (congrFun eg1 cj).trans ((va_up_ne _ _ ne_cj_om).trans hg_cj)
          have hrs : ∀ q : Nat, q ≠ om → q ≠ fz → q ≠ cj → g1 q = g q := fun q h_om h_fz h_cj => (congrFun eg1 q).trans ((va_up_ne _ _ h_om).trans (hrs q h_om h_fz h_cj))
          refine lv_aload_n hx hb dX3_needle_83 rfl (lv_at hl 3 rfl) ?_
          refine pg_get hx hb hts hin_X3_X3_needle hown hK hP hL_om hg_om rfl 5 (by decide) (hts (.fieldLink RX3 17 "NeedleBoardModel" "thrown" "I") (by decide +kernel)) rfl dX3_needle_84 ?_
          refine lv_if_le (tgt := 92) hx hb dX3_needle_87 (by decide) (fun h9 => absurd h9 (by decide)) (fun _ => ?_)
          refine lv_iconst (v := 0) hx hb dX3_needle_90 (by decide) ?_
          have hF : fX3_needle kn kc kr kt kw ff cv x1 x2 x4 = ((0 : Int32), ff, cv, kn, (2 : Int32)) := (by unfold fX3_needle; rw [if_neg c_1, if_neg c_2, if_neg c_3, if_pos c_4])
          have hF0 : (fX3_needle kn kc kr kt kw ff cv x1 x2 x4).1 = (0 : Int32) := by rw [hF]
          have hF1 : (fX3_needle kn kc kr kt kw ff cv x1 x2 x4).2.1 = ff := by rw [hF]
          have hF2 : (fX3_needle kn kc kr kt kw ff cv x1 x2 x4).2.2.1 = cv := by rw [hF]
          have hF3 : (fX3_needle kn kc kr kt kw ff cv x1 x2 x4).2.2.2.1 = kn := by rw [hF]
          have hF4 : (fX3_needle kn kc kr kt kw ff cv x1 x2 x4).2.2.2.2 = (2 : Int32) := by rw [hF]
          exact W.iret hx hb hr (fun t ht hW => ⟨congrArg (fun z => Outcome.returned (some (Value.int z))) hF0.symm, ⟨g1, WM hP hK hD hKC0 hTC hS ht hW.alike, by rw [hF1, hF2, hF3, hF4]; exact ⟨hg_om, hg_fz, hg_cj, hrs⟩⟩, hS.F ht⟩) (fun q h => hS.2.2 q h) dX3_needle_91
