/-- where a model's number lies -/
theorem ix_in {x w : Int32} (hn : vp_in x 8) (hw : vp_in w 7) : vp_in ((7 : Int32) * x + w) 56 := by
  obtain ⟨a, ha, rfl⟩ := vp_in_of hn (by decide)
  obtain ⟨b, hb, rfl⟩ := vp_in_of hw (by decide)
  have h7 : (7 : Int32) = nI 7 := rfl
  rw [h7, pk_mul, nI_add]
  exact vp_in_nI (by omega) (by decide)
theorem in_of {x n : Int32} (h1 : ¬ x < 0) (h2 : ¬ n ≤ x) (h3 : n ≤ 8) : vp_in x 8 := by
  have a1 := mt Int32.lt_iff_toInt_lt.mpr h1
  have a2 := mt Int32.le_iff_toInt_le.mpr h2
  have a3 := Int32.le_iff_toInt_le.mp h3
  have a4 : (0 : Int32).toInt = 0 := rfl
  have a5 : (8 : Int32).toInt = 8 := rfl
  exact vp_in_iff.mpr ⟨by omega, by omega⟩
def fX3_thrown (kn : Int32) (kc : Int32) (kr : Int32) (kt : Int32) (kw : Int64) (ff : Nat → Int32) (cv : Nat → Int64) : Int32 :=
  kt
theorem hd_X3_thrown : yX3_thrown.cls = RX3 ∧ yX3_thrown.cls ≠ "java/lang/invoke/MethodHandle" ∧ yX3_thrown.cls ≠ "java/lang/invoke/VarHandle" ∧ (parseMethodDescriptor yX3_thrown.desc).map (fun d => d.parameters.length) = some 0 := by decide +kernel
theorem hin_X3_X3_thrown : ∀ w ∈ wsX30, w ∈ wsX3_thrown := by decide +kernel
set_option maxHeartbeats 1000000 in
set_option maxRecDepth 100000 in
theorem c_X3_thrown (l : Launch) {cyJ : ClassId} {cyZ : ClassId} (D : va_G) (tys : List (ClassId × FieldType)) (ad : Nat → Nat) (L : List Nat) (g : Nat → va_E) (om fz cj : Nat) (kn : Int32) (kc : Int32) (kr : Int32) (kt : Int32) (kw : Int64) (ff : Nat → Int32) (cv : Nat → Int64) (hL_om : om ∈ L) (hL_fz : fz ∈ L) (hL_cj : cj ∈ L) (hg_om : g om = .inr (3, [.ref fz, .ref cj, .int kn, .int kc, .int kr, .int kt, .long kw])) (hg_fz : g fz = .inl (cyZ, 8, .inl ff)) (hg_cj : g cj = .inl (cyJ, 56, .inr (.inl cv))) (htJ : tys[0]? = some (cyJ, .long)) (htZ : tys[1]? = some (cyZ, .boolean)) : Met l yX3_thrown wsX3_thrown ({ frames := 0, cells := 0, slots := 0, locals := 0 }) (PW D tys ad L g [.ref om]) (k2_QcV (.int (fX3_thrown kn kc kr kt kw ff cv))) 0 0 (fun _ => False) := by
  refine Met.ofW (cc := cX3_thrown) (maxL := 1) (ret := (some .int)) (by decide) rfl ?_
  intro p e s m args below meth c s₁ B hml hv
  obtain ⟨rfl, ⟨hP, hK, hD0, hKC0, hTC⟩, hXN⟩ := hv
  have hP0 := hP
  have hD : va_D (fun q => q ∈ L) (va_pl L g) := we_D (fun _ h => h) hD0
  have hKC : KC ad (fun q => q ∈ L) s s.heap := hKC0.narrow (fun _ h => Or.inl h)
  have hS : va_S (fun q => q ∈ L) s.heap s.heap [] := va_S.rf
  have hx := B.exec
  have hb := B.bytes
  have hr := B.returns
  have hts := atoms_spec (ws := wsX3_thrown) B.pre
  have hown : s.vm.findClass RX3 = some m.cls := findClass_of_methodNamed B.named
  have hlocks := B.notSynchronized
  have hl := lv_entry ([.ref om]) (n := 1) (Nat.le_of_ble_eq_true rfl)
  rw [lg_entry_eq]
  generalize (lg_sl ([.ref om]) ++ List.replicate (1 - (lg_sl ([.ref om])).length) Slot.unset).toArray = ls at hl ⊢
  have hl : lv_has ls 1 [(0, .ref om)] := hl
  refine lv_aload_n hx hb dX3_thrown_0 rfl (lv_at hl 0 rfl) ?_
  refine pg_get hx hb hts hin_X3_X3_thrown hown hK hP hL_om hg_om rfl 5 (by decide) (hts (.fieldLink RX3 17 "NeedleBoardModel" "thrown" "I") (by decide +kernel)) rfl dX3_thrown_1 ?_
  have hF : fX3_thrown kn kc kr kt kw ff cv = kt := (by rfl)
  have hF0 := hF
  exact W.iret hx hb hr (fun t ht _ => ⟨congrArg (fun z => Outcome.returned (some (Value.int z))) hF0.symm, ht⟩) (fun _ h => nomatch h) dX3_thrown_4
def fX3_get (kn : Int32) (kc : Int32) (kr : Int32) (kt : Int32) (kw : Int64) (ff : Nat → Int32) (cv : Nat → Int64) (x1 : Int32) (x2 : Int32) : Int64 :=
  cv (((7 : Int32) * x1) + x2).toNatClampNeg
theorem hd_X3_get : yX3_get.cls = RX3 ∧ yX3_get.cls ≠ "java/lang/invoke/MethodHandle" ∧ yX3_get.cls ≠ "java/lang/invoke/VarHandle" ∧ (parseMethodDescriptor yX3_get.desc).map (fun d => d.parameters.length) = some 2 := by decide +kernel
theorem hin_X3_X3_get : ∀ w ∈ wsX30, w ∈ wsX3_get := by decide +kernel
set_option maxHeartbeats 1000000 in
set_option maxRecDepth 100000 in
theorem c_X3_get (l : Launch) {cyJ : ClassId} {cyZ : ClassId} (D : va_G) (tys : List (ClassId × FieldType)) (ad : Nat → Nat) (L : List Nat) (g : Nat → va_E) (om fz cj : Nat) (kn : Int32) (kc : Int32) (kr : Int32) (kt : Int32) (kw : Int64) (ff : Nat → Int32) (cv : Nat → Int64) (x1 : Int32) (x2 : Int32) (hL_om : om ∈ L) (hL_fz : fz ∈ L) (hL_cj : cj ∈ L) (hg_om : g om = .inr (3, [.ref fz, .ref cj, .int kn, .int kc, .int kr, .int kt, .long kw])) (hg_fz : g fz = .inl (cyZ, 8, .inl ff)) (hg_cj : g cj = .inl (cyJ, 56, .inr (.inl cv))) (htJ : tys[0]? = some (cyJ, .long)) (htZ : tys[1]? = some (cyZ, .boolean)) (hin : vp_in ((7 : Int32) * x1 + x2) 56) : Met l yX3_get wsX3_get ({ frames := 0, cells := 0, slots := 0, locals := 0 }) (PW D tys ad L g [.ref om, .int x1, .int x2]) (k2_QcV (.long (fX3_get kn kc kr kt kw ff cv x1 x2))) 0 0 (fun _ => False) := by
  refine Met.ofW (cc := cX3_get) (maxL := 3) (ret := (some .long)) (by decide) rfl ?_
  intro p e s m args below meth c s₁ B hml hv
  obtain ⟨rfl, ⟨hP, hK, hD0, hKC0, hTC⟩, hXN⟩ := hv
  have hP0 := hP
  have hD : va_D (fun q => q ∈ L) (va_pl L g) := we_D (fun _ h => h) hD0
  have hKC : KC ad (fun q => q ∈ L) s s.heap := hKC0.narrow (fun _ h => Or.inl h)
  have hS : va_S (fun q => q ∈ L) s.heap s.heap [] := va_S.rf
  have hx := B.exec
  have hb := B.bytes
  have hr := B.returns
  have hts := atoms_spec (ws := wsX3_get) B.pre
  have hown : s.vm.findClass RX3 = some m.cls := findClass_of_methodNamed B.named
  have hlocks := B.notSynchronized
  have hl := lv_entry ([.ref om, .int x1, .int x2]) (n := 3) (Nat.le_of_ble_eq_true rfl)
  rw [lg_entry_eq]
  generalize (lg_sl ([.ref om, .int x1, .int x2]) ++ List.replicate (3 - (lg_sl ([.ref om, .int x1, .int x2])).length) Slot.unset).toArray = ls at hl ⊢
  have hl : lv_has ls 3 [(0, .ref om), (1, .int x1), (2, .int x2)] := hl
  refine lv_aload_n hx hb dX3_get_0 rfl (lv_at hl 0 rfl) ?_
  refine pg_get hx hb hts hin_X3_X3_get hown hK hP hL_om hg_om rfl 1 (by decide) (hts (.fieldLink RX3 13 "NeedleBoardModel" "cell" "[J") (by decide +kernel)) rfl dX3_get_1 ?_
  refine lv_bipush (v := (7)) hx hb dX3_get_4 (by decide) ?_
  refine lv_iload_n hx hb dX3_get_6 rfl (lv_at hl 1 rfl) ?_
  refine lv_imul hx hb dX3_get_7 ?_
  refine lv_iload_n hx hb dX3_get_8 rfl (lv_at hl 2 rfl) ?_
  refine lv_iadd hx hb dX3_get_9 ?_
  refine pg_lald hx hb hK hP 0 hL_cj hg_cj htJ hin dX3_get_10 ?_
  have hF : fX3_get kn kc kr kt kw ff cv x1 x2 = cv (((7 : Int32) * x1) + x2).toNatClampNeg := (by rfl)
  have hF0 := hF
  exact W.lret hx hb hr (fun t ht _ => ⟨congrArg (fun z => Outcome.returned (some (Value.long z))) hF0.symm, ht⟩) (fun _ h => nomatch h) dX3_get_11
def fX3_set (kn : Int32) (kc : Int32) (kr : Int32) (kt : Int32) (kw : Int64) (ff : Nat → Int32) (cv : Nat → Int64) (x1 : Int32) (x2 : Int32) (x3 : Int64) : (Nat → Int64) :=
  vp_updL cv (((7 : Int32) * x1) + x2).toNatClampNeg x3
theorem hd_X3_set : yX3_set.cls = RX3 ∧ yX3_set.cls ≠ "java/lang/invoke/MethodHandle" ∧ yX3_set.cls ≠ "java/lang/invoke/VarHandle" ∧ (parseMethodDescriptor yX3_set.desc).map (fun d => d.parameters.length) = some 3 := by decide +kernel
theorem hin_X3_X3_set : ∀ w ∈ wsX30, w ∈ wsX3_set := by decide +kernel
set_option maxHeartbeats 1000000 in
set_option maxRecDepth 100000 in
theorem c_X3_set (l : Launch) {cyJ : ClassId} {cyZ : ClassId} (D : va_G) (tys : List (ClassId × FieldType)) (ad : Nat → Nat) (L : List Nat) (g : Nat → va_E) (om fz cj : Nat) (kn : Int32) (kc : Int32) (kr : Int32) (kt : Int32) (kw : Int64) (ff : Nat → Int32) (cv : Nat → Int64) (x1 : Int32) (x2 : Int32) (x3 : Int64) (hL_om : om ∈ L) (hL_fz : fz ∈ L) (hL_cj : cj ∈ L) (hg_om : g om = .inr (3, [.ref fz, .ref cj, .int kn, .int kc, .int kr, .int kt, .long kw])) (hg_fz : g fz = .inl (cyZ, 8, .inl ff)) (hg_cj : g cj = .inl (cyJ, 56, .inr (.inl cv))) (ne_om_cj : om ≠ cj) (ne_fz_cj : fz ≠ cj) (htJ : tys[0]? = some (cyJ, .long)) (htZ : tys[1]? = some (cyZ, .boolean)) (hin : vp_in ((7 : Int32) * x1 + x2) 56) : Met l yX3_set wsX3_set ({ frames := 0, cells := 0, slots := 0, locals := 0 }) (PW D tys ad L g [.ref om, .int x1, .int x2, .long x3]) (QE D tys ad L none (fun g1 => g1 cj = .inl (cyJ, 56, .inr (.inl (fX3_set kn kc kr kt kw ff cv x1 x2 x3))) ∧ ∀ q : Nat, q ≠ cj → g1 q = g q)) 0 0 (fun q => q ∈ L) := by
  refine Met.ofW (cc := cX3_set) (maxL := 5) (ret := none) (by decide) rfl ?_
  intro p e s m args below meth c s₁ B hml hv
  obtain ⟨rfl, ⟨hP, hK, hD0, hKC0, hTC⟩, hXN⟩ := hv
  have hP0 := hP
  have hD : va_D (fun q => q ∈ L) (va_pl L g) := we_D (fun _ h => h) hD0
  have hKC : KC ad (fun q => q ∈ L) s s.heap := hKC0.narrow (fun _ h => Or.inl h)
  have hS : va_S (fun q => q ∈ L) s.heap s.heap [] := va_S.rf
  have hx := B.exec
  have hb := B.bytes
  have hr := B.returns
  have hts := atoms_spec (ws := wsX3_set) B.pre
  have hown : s.vm.findClass RX3 = some m.cls := findClass_of_methodNamed B.named
  have hlocks := B.notSynchronized
  have hrs : ∀ q : Nat, q ≠ cj → g q = g q := fun q _ => rfl
  have hl := lv_entry ([.ref om, .int x1, .int x2, .long x3]) (n := 5) (Nat.le_of_ble_eq_true rfl)
  rw [lg_entry_eq]
  generalize (lg_sl ([.ref om, .int x1, .int x2, .long x3]) ++ List.replicate (5 - (lg_sl ([.ref om, .int x1, .int x2, .long x3])).length) Slot.unset).toArray = ls at hl ⊢
  have hl : lv_has ls 5 [(0, .ref om), (1, .int x1), (2, .int x2), (3, .long x3)] := hl
  refine lv_aload_n hx hb dX3_set_0 rfl (lv_at hl 0 rfl) ?_
  refine pg_get hx hb hts hin_X3_X3_set hown hK hP hL_om hg_om rfl 1 (by decide) (hts (.fieldLink RX3 13 "NeedleBoardModel" "cell" "[J") (by decide +kernel)) rfl dX3_set_1 ?_
  refine lv_bipush (v := (7)) hx hb dX3_set_4 (by decide) ?_
  refine lv_iload_n hx hb dX3_set_6 rfl (lv_at hl 1 rfl) ?_
  refine lv_imul hx hb dX3_set_7 ?_
  refine lv_iload_n hx hb dX3_set_8 rfl (lv_at hl 2 rfl) ?_
  refine lv_iadd hx hb dX3_set_9 ?_
  refine lv_lload_n hx hb dX3_set_10 rfl (lv_at hl 3 rfl) ?_
  refine pg_last hx hb hK hP hD hS 0 hL_cj hg_cj htJ hin dX3_set_11 (fun H locs hP hD hS => ?_)
  obtain ⟨g1, eg1⟩ : ∃ z : Nat → va_E, z = va_up g cj (.inl (cyJ, 56, .inr (.inl (vp_updL cv (((7 : Int32) * x1) + x2).toNatClampNeg x3)))) := ⟨_, rfl⟩
  have hP : va_P D vwCl (va_pl L g1) H := by rw [eg1]; exact hP
  have hD : va_D (fun q => q ∈ L) (va_pl L g1) := by rw [eg1]; exact hD
  have hg_cj : g1 cj = .inl (cyJ, 56, .inr (.inl (vp_updL cv (((7 : Int32) * x1) + x2).toNatClampNeg x3))) := by rw [eg1]; exact va_up_self _ _ _
  have hg_om : g1 om = .inr (3, [.ref fz, .ref cj, .int kn, .int kc, .int kr, .int kt, .long kw]) := (congrFun eg1 om).trans ((va_up_ne _ _ ne_om_cj).trans hg_om)
  have hg_fz : g1 fz = .inl (cyZ, 8, .inl ff) := (congrFun eg1 fz).trans ((va_up_ne _ _ ne_fz_cj).trans hg_fz)
  have hrs : ∀ q : Nat, q ≠ cj → g1 q = g q := fun q h_cj => (congrFun eg1 q).trans ((va_up_ne _ _ h_cj).trans (hrs q h_cj))
  have hF : fX3_set kn kc kr kt kw ff cv x1 x2 x3 = vp_updL cv (((7 : Int32) * x1) + x2).toNatClampNeg x3 := (by rfl)
  have hF0 := hF
  exact W.vret hx hb hr (fun t ht hW => ⟨rfl, ⟨g1, WM hP hK hD hKC0 hTC hS ht hW.alike, by rw [hF0]; exact ⟨hg_cj, hrs⟩⟩, hS.F ht⟩) (fun q h => hS.2.2 q h) dX3_set_12
def fX3_isThere (kn : Int32) (kc : Int32) (kr : Int32) (kt : Int32) (kw : Int64) (ff : Nat → Int32) (cv : Nat → Int64) (x1 : Int32) : Int32 × Int32 :=
  if x1 < 0 then
    ((0 : Int32), (1 : Int32))
  else
    if kn ≤ x1 then
      ((0 : Int32), (1 : Int32))
    else
      ((1 : Int32), (0 : Int32))
theorem hd_X3_isThere : yX3_isThere.cls = RX3 ∧ yX3_isThere.cls ≠ "java/lang/invoke/MethodHandle" ∧ yX3_isThere.cls ≠ "java/lang/invoke/VarHandle" ∧ (parseMethodDescriptor yX3_isThere.desc).map (fun d => d.parameters.length) = some 1 := by decide +kernel
theorem hin_X3_X3_isThere : ∀ w ∈ wsX30, w ∈ wsX3_isThere := by decide +kernel
set_option maxHeartbeats 1000000 in
set_option maxRecDepth 100000 in
theorem c_X3_isThere (l : Launch) {cyJ : ClassId} {cyZ : ClassId} (D : va_G) (tys : List (ClassId × FieldType)) (ad : Nat → Nat) (L : List Nat) (g : Nat → va_E) (om fz cj : Nat) (kn : Int32) (kc : Int32) (kr : Int32) (kt : Int32) (kw : Int64) (ff : Nat → Int32) (cv : Nat → Int64) (x1 : Int32) (hL_om : om ∈ L) (hL_fz : fz ∈ L) (hL_cj : cj ∈ L) (hg_om : g om = .inr (3, [.ref fz, .ref cj, .int kn, .int kc, .int kr, .int kt, .long kw])) (hg_fz : g fz = .inl (cyZ, 8, .inl ff)) (hg_cj : g cj = .inl (cyJ, 56, .inr (.inl cv))) (ne_fz_om : fz ≠ om) (ne_cj_om : cj ≠ om) (htJ : tys[0]? = some (cyJ, .long)) (htZ : tys[1]? = some (cyZ, .boolean)) : Met l yX3_isThere wsX3_isThere ({ frames := 0, cells := 0, slots := 0, locals := 0 }) (PW D tys ad L g [.ref om, .int x1]) (QE D tys ad L (some (.int ((fX3_isThere kn kc kr kt kw ff cv x1).1))) (fun g1 => g1 om = .inr (3, [.ref fz, .ref cj, .int kn, .int kc, .int kr, .int ((fX3_isThere kn kc kr kt kw ff cv x1).2), .long kw]) ∧ ∀ q : Nat, q ≠ om → g1 q = g q)) 0 0 (fun q => q ∈ L) := by
  refine Met.ofW (cc := cX3_isThere) (maxL := 2) (ret := (some .boolean)) (by decide) rfl ?_
  intro p e s m args below meth c s₁ B hml hv
  obtain ⟨rfl, ⟨hP, hK, hD0, hKC0, hTC⟩, hXN⟩ := hv
  have hP0 := hP
  have hD : va_D (fun q => q ∈ L) (va_pl L g) := we_D (fun _ h => h) hD0
  have hKC : KC ad (fun q => q ∈ L) s s.heap := hKC0.narrow (fun _ h => Or.inl h)
  have hS : va_S (fun q => q ∈ L) s.heap s.heap [] := va_S.rf
  have hx := B.exec
  have hb := B.bytes
  have hr := B.returns
  have hts := atoms_spec (ws := wsX3_isThere) B.pre
  have hown : s.vm.findClass RX3 = some m.cls := findClass_of_methodNamed B.named
  have hlocks := B.notSynchronized
  have hrs : ∀ q : Nat, q ≠ om → g q = g q := fun q _ => rfl
  have hl := lv_entry ([.ref om, .int x1]) (n := 2) (Nat.le_of_ble_eq_true rfl)
  rw [lg_entry_eq]
  generalize (lg_sl ([.ref om, .int x1]) ++ List.replicate (2 - (lg_sl ([.ref om, .int x1])).length) Slot.unset).toArray = ls at hl ⊢
  have hl : lv_has ls 2 [(0, .ref om), (1, .int x1)] := hl
  refine lv_aload_n hx hb dX3_isThere_0 rfl (lv_at hl 0 rfl) ?_
  refine lv_iload_n hx hb dX3_isThere_1 rfl (lv_at hl 1 rfl) ?_
  refine lv_if_lt (tgt := 17) hx hb dX3_isThere_2 (by decide) (fun c_1 => ?_) (fun c_1 => ?_)
  · refine lv_iconst (v := 1) hx hb dX3_isThere_17 (by decide) ?_
    refine pg_put (ty := .int) hx hb hts hin_X3_X3_isThere tyX3 tyX3_ok nmX3 hown hK hP hD hS hL_om hg_om rfl 5 (by decide) (hts (.fieldLink RX3 17 "NeedleBoardModel" "thrown" "I") (by decide +kernel)) rfl (by decide +kernel) rfl rfl (Nat.le_of_ble_eq_true rfl) dX3_isThere_18 (fun H locs hP hD hS => ?_)
    obtain ⟨g1, eg1⟩ : ∃ z : Nat → va_E, z = va_up g om (.inr (3, [.ref fz, .ref cj, .int kn, .int kc, .int kr, .int (1 : Int32), .long kw])) := ⟨_, rfl⟩
    have hP : va_P D vwCl (va_pl L g1) H := by rw [eg1]; exact hP
    have hD : va_D (fun q => q ∈ L) (va_pl L g1) := by rw [eg1]; exact hD
    have hg_om : g1 om = .inr (3, [.ref fz, .ref cj, .int kn, .int kc, .int kr, .int (1 : Int32), .long kw]) := by rw [eg1]; exact va_up_self _ _ _
    have hg_fz : g1 fz = .inl (cyZ, 8, .inl ff) := (congrFun eg1 fz).trans ((va_up_ne _ _ ne_fz_om).trans hg_fz)
    have hg_cj : g1 cj = .inl (cyJ, 56, .inr (.inl cv)) := (congrFun eg1 cj).trans ((va_up_ne _ _ ne_cj_om).trans hg_cj)
    have hrs : ∀ q : Nat, q ≠ om → g1 q = g q := fun q h_om => (congrFun eg1 q).trans ((va_up_ne _ _ h_om).trans (hrs q h_om))
    refine lv_aload_n hx hb dX3_isThere_21 rfl (lv_at hl 0 rfl) ?_
    refine pg_get hx hb hts hin_X3_X3_isThere hown hK hP hL_om hg_om rfl 5 (by decide) (hts (.fieldLink RX3 17 "NeedleBoardModel" "thrown" "I") (by decide +kernel)) rfl dX3_isThere_22 ?_
    refine lv_if_ne (tgt := 32) hx hb dX3_isThere_25 (by decide) (fun _ => ?_) (fun h9 => absurd h9 (by decide))
    refine lv_iconst (v := 0) hx hb dX3_isThere_32 (by decide) ?_
    have hF : fX3_isThere kn kc kr kt kw ff cv x1 = ((0 : Int32), (1 : Int32)) := (by unfold fX3_isThere; rw [if_pos c_1])
    have hF0 : (fX3_isThere kn kc kr kt kw ff cv x1).1 = (0 : Int32) := by rw [hF]
    have hF1 : (fX3_isThere kn kc kr kt kw ff cv x1).2 = (1 : Int32) := by rw [hF]
    exact W.zret hx hb hr (by decide) (fun t ht hW => ⟨congrArg (fun z => Outcome.returned (some (Value.int z))) hF0.symm, ⟨g1, WM hP hK hD hKC0 hTC hS ht hW.alike, by rw [hF1]; exact ⟨hg_om, hrs⟩⟩, hS.F ht⟩) (fun q h => hS.2.2 q h) dX3_isThere_33
  · refine lv_iload_n hx hb dX3_isThere_5 rfl (lv_at hl 1 rfl) ?_
    refine lv_aload_n hx hb dX3_isThere_6 rfl (lv_at hl 0 rfl) ?_
    refine pg_get hx hb hts hin_X3_X3_isThere hown hK hP hL_om hg_om rfl 2 (by decide) (hts (.fieldLink RX3 67 "NeedleBoardModel" "needles" "I") (by decide +kernel)) rfl dX3_isThere_7 ?_
    refine lv_icmp_ge (tgt := 17) hx hb dX3_isThere_10 (by decide) (fun c_2 => ?_) (fun c_2 => ?_)
    · refine lv_iconst (v := 1) hx hb dX3_isThere_17 (by decide) ?_
      refine pg_put (ty := .int) hx hb hts hin_X3_X3_isThere tyX3 tyX3_ok nmX3 hown hK hP hD hS hL_om hg_om rfl 5 (by decide) (hts (.fieldLink RX3 17 "NeedleBoardModel" "thrown" "I") (by decide +kernel)) rfl (by decide +kernel) rfl rfl (Nat.le_of_ble_eq_true rfl) dX3_isThere_18 (fun H locs hP hD hS => ?_)
      obtain ⟨g1, eg1⟩ : ∃ z : Nat → va_E, z = va_up g om (.inr (3, [.ref fz, .ref cj, .int kn, .int kc, .int kr, .int (1 : Int32), .long kw])) := ⟨_, rfl⟩
      have hP : va_P D vwCl (va_pl L g1) H := by rw [eg1]; exact hP
      have hD : va_D (fun q => q ∈ L) (va_pl L g1) := by rw [eg1]; exact hD
      have hg_om : g1 om = .inr (3, [.ref fz, .ref cj, .int kn, .int kc, .int kr, .int (1 : Int32), .long kw]) := by rw [eg1]; exact va_up_self _ _ _
      have hg_fz : g1 fz = .inl (cyZ, 8, .inl ff) := (congrFun eg1 fz).trans ((va_up_ne _ _ ne_fz_om).trans hg_fz)
      have hg_cj : g1 cj = .inl (cyJ, 56, .inr (.inl cv)) := (congrFun eg1 cj).trans ((va_up_ne _ _ ne_cj_om).trans hg_cj)
      have hrs : ∀ q : Nat, q ≠ om → g1 q = g q := fun q h_om => (congrFun eg1 q).trans ((va_up_ne _ _ h_om).trans (hrs q h_om))
      refine lv_aload_n hx hb dX3_isThere_21 rfl (lv_at hl 0 rfl) ?_
      refine pg_get hx hb hts hin_X3_X3_isThere hown hK hP hL_om hg_om rfl 5 (by decide) (hts (.fieldLink RX3 17 "NeedleBoardModel" "thrown" "I") (by decide +kernel)) rfl dX3_isThere_22 ?_
      refine lv_if_ne (tgt := 32) hx hb dX3_isThere_25 (by decide) (fun _ => ?_) (fun h9 => absurd h9 (by decide))
      refine lv_iconst (v := 0) hx hb dX3_isThere_32 (by decide) ?_
      have hF : fX3_isThere kn kc kr kt kw ff cv x1 = ((0 : Int32), (1 : Int32)) := (by unfold fX3_isThere; rw [if_neg c_1, if_pos c_2])
      have hF0 : (fX3_isThere kn kc kr kt kw ff cv x1).1 = (0 : Int32) := by rw [hF]
      have hF1 : (fX3_isThere kn kc kr kt kw ff cv x1).2 = (1 : Int32) := by rw [hF]
      exact W.zret hx hb hr (by decide) (fun t ht hW => ⟨congrArg (fun z => Outcome.returned (some (Value.int z))) hF0.symm, ⟨g1, WM hP hK hD hKC0 hTC hS ht hW.alike, by rw [hF1]; exact ⟨hg_om, hrs⟩⟩, hS.F ht⟩) (fun q h => hS.2.2 q h) dX3_isThere_33
    · refine lv_iconst (v := 0) hx hb dX3_isThere_13 (by decide) ?_
      refine lv_goto (tgt := 18) hx hb dX3_isThere_14 (by decide) ?_
      refine pg_put (ty := .int) hx hb hts hin_X3_X3_isThere tyX3 tyX3_ok nmX3 hown hK hP hD hS hL_om hg_om rfl 5 (by decide) (hts (.fieldLink RX3 17 "NeedleBoardModel" "thrown" "I") (by decide +kernel)) rfl (by decide +kernel) rfl rfl (Nat.le_of_ble_eq_true rfl) dX3_isThere_18 (fun H locs hP hD hS => ?_)
      obtain ⟨g1, eg1⟩ : ∃ z : Nat → va_E, z = va_up g om (.inr (3, [.ref fz, .ref cj, .int kn, .int kc, .int kr, .int (0 : Int32), .long kw])) := ⟨_, rfl⟩
      have hP : va_P D vwCl (va_pl L g1) H := by rw [eg1]; exact hP
      have hD : va_D (fun q => q ∈ L) (va_pl L g1) := by rw [eg1]; exact hD
      have hg_om : g1 om = .inr (3, [.ref fz, .ref cj, .int kn, .int kc, .int kr, .int (0 : Int32), .long kw]) := by rw [eg1]; exact va_up_self _ _ _
      have hg_fz : g1 fz = .inl (cyZ, 8, .inl ff) := (congrFun eg1 fz).trans ((va_up_ne _ _ ne_fz_om).trans hg_fz)
      have hg_cj : g1 cj = .inl (cyJ, 56, .inr (.inl cv)) := (congrFun eg1 cj).trans ((va_up_ne _ _ ne_cj_om).trans hg_cj)
      have hrs : ∀ q : Nat, q ≠ om → g1 q = g q := fun q h_om => (congrFun eg1 q).trans ((va_up_ne _ _ h_om).trans (hrs q h_om))
      refine lv_aload_n hx hb dX3_isThere_21 rfl (lv_at hl 0 rfl) ?_
      refine pg_get hx hb hts hin_X3_X3_isThere hown hK hP hL_om hg_om rfl 5 (by decide) (hts (.fieldLink RX3 17 "NeedleBoardModel" "thrown" "I") (by decide +kernel)) rfl dX3_isThere_22 ?_
      refine lv_if_ne (tgt := 32) hx hb dX3_isThere_25 (by decide) (fun h9 => absurd h9 (by decide)) (fun _ => ?_)
      refine lv_iconst (v := 1) hx hb dX3_isThere_28 (by decide) ?_
      refine lv_goto (tgt := 33) hx hb dX3_isThere_29 (by decide) ?_
      have hF : fX3_isThere kn kc kr kt kw ff cv x1 = ((1 : Int32), (0 : Int32)) := (by unfold fX3_isThere; rw [if_neg c_1, if_neg c_2])
      have hF0 : (fX3_isThere kn kc kr kt kw ff cv x1).1 = (1 : Int32) := by rw [hF]
      have hF1 : (fX3_isThere kn kc kr kt kw ff cv x1).2 = (0 : Int32) := by rw [hF]
      exact W.zret hx hb hr (by decide) (fun t ht hW => ⟨congrArg (fun z => Outcome.returned (some (Value.int z))) hF0.symm, ⟨g1, WM hP hK hD hKC0 hTC hS ht hW.alike, by rw [hF1]; exact ⟨hg_om, hrs⟩⟩, hS.F ht⟩) (fun q h => hS.2.2 q h) dX3_isThere_33
theorem it_in {kn kc kr kt : Int32} {kw : Int64} {ff : Nat → Int32} {cv : Nat → Int64} {x1 : Int32} (hkn : 0 ≤ kn ∧ kn ≤ 8) (h : ¬ (fX3_isThere kn kc kr kt kw ff cv x1).1 = 0) : vp_in x1 8 := by
  unfold fX3_isThere at h
  split at h
  · exact absurd rfl h
  · rename_i h1
    split at h
    · exact absurd rfl h
    · rename_i h2
      exact in_of h1 h2 hkn.2
def fX3_may (kn : Int32) (kc : Int32) (kr : Int32) (kt : Int32) (kw : Int64) (ff : Nat → Int32) (cv : Nat → Int64) (x1 : Int32) (x2 : Int64) : Int32 × Int32 :=
  if ((fX3_isThere kn kc kr kt kw ff cv x1).1) = 0 then
    if ((fX3_isThere kn kc kr kt kw ff cv x1).2) = 0 then
      ((1 : Int32), (fX3_isThere kn kc kr kt kw ff cv x1).2)
    else
      ((0 : Int32), (fX3_isThere kn kc kr kt kw ff cv x1).2)
  else
    if (fX3_isNumber (ff x1.toNatClampNeg) x2) = 0 then
      ((0 : Int32), (2 : Int32))
    else
      if ((fX3_isThere kn kc kr kt kw ff cv x1).2) = 0 then
        ((1 : Int32), (fX3_isThere kn kc kr kt kw ff cv x1).2)
      else
        ((0 : Int32), (fX3_isThere kn kc kr kt kw ff cv x1).2)
theorem hd_X3_may : yX3_may.cls = RX3 ∧ yX3_may.cls ≠ "java/lang/invoke/MethodHandle" ∧ yX3_may.cls ≠ "java/lang/invoke/VarHandle" ∧ (parseMethodDescriptor yX3_may.desc).map (fun d => d.parameters.length) = some 2 := by decide +kernel
theorem hin_X3_X3_may : ∀ w ∈ wsX30, w ∈ wsX3_may := by decide +kernel
set_option maxHeartbeats 1000000 in
set_option maxRecDepth 100000 in
theorem c_X3_may (l : Launch) {cyJ : ClassId} {cyZ : ClassId} (D : va_G) (tys : List (ClassId × FieldType)) (ad : Nat → Nat) (L : List Nat) (g : Nat → va_E) (om fz cj : Nat) (kn : Int32) (kc : Int32) (kr : Int32) (kt : Int32) (kw : Int64) (ff : Nat → Int32) (cv : Nat → Int64) (x1 : Int32) (x2 : Int64) (hL_om : om ∈ L) (hL_fz : fz ∈ L) (hL_cj : cj ∈ L) (hg_om : g om = .inr (3, [.ref fz, .ref cj, .int kn, .int kc, .int kr, .int kt, .long kw])) (hg_fz : g fz = .inl (cyZ, 8, .inl ff)) (hg_cj : g cj = .inl (cyJ, 56, .inr (.inl cv))) (ne_fz_om : fz ≠ om) (ne_cj_om : cj ≠ om) (htJ : tys[0]? = some (cyJ, .long)) (htZ : tys[1]? = some (cyZ, .boolean)) (hkn : 0 ≤ kn ∧ kn ≤ 8) : Met l yX3_may wsX3_may ({ frames := 2, cells := 0, slots := 0, locals := 44 }) (PW D tys ad L g [.ref om, .int x1, .long x2]) (QE D tys ad L (some (.int ((fX3_may kn kc kr kt kw ff cv x1 x2).1))) (fun g1 => g1 om = .inr (3, [.ref fz, .ref cj, .int kn, .int kc, .int kr, .int ((fX3_may kn kc kr kt kw ff cv x1 x2).2), .long kw]) ∧ ∀ q : Nat, q ≠ om → g1 q = g q)) 0 0 (fun q => q ∈ L) := by
  refine Met.ofW (cc := cX3_may) (maxL := 4) (ret := (some .boolean)) (by decide) rfl ?_
  intro p e s m args below meth c s₁ B hml hv
  obtain ⟨rfl, ⟨hP, hK, hD0, hKC0, hTC⟩, hXN⟩ := hv
  have hP0 := hP
  have hD : va_D (fun q => q ∈ L) (va_pl L g) := we_D (fun _ h => h) hD0
  have hKC : KC ad (fun q => q ∈ L) s s.heap := hKC0.narrow (fun _ h => Or.inl h)
  have hS : va_S (fun q => q ∈ L) s.heap s.heap [] := va_S.rf
  have hx := B.exec
  have hb := B.bytes
  have hr := B.returns
  have hts := atoms_spec (ws := wsX3_may) B.pre
  have hown : s.vm.findClass RX3 = some m.cls := findClass_of_methodNamed B.named
  have hlocks := B.notSynchronized
  have hrs : ∀ q : Nat, q ≠ om → g q = g q := fun q _ => rfl
  have hl := lv_entry ([.ref om, .int x1, .long x2]) (n := 4) (Nat.le_of_ble_eq_true rfl)
  rw [lg_entry_eq]
  generalize (lg_sl ([.ref om, .int x1, .long x2]) ++ List.replicate (4 - (lg_sl ([.ref om, .int x1, .long x2])).length) Slot.unset).toArray = ls at hl ⊢
  have hl : lv_has ls 4 [(0, .ref om), (1, .int x1), (2, .long x2)] := hl
  refine lv_aload_n hx hb dX3_may_0 rfl (lv_at hl 0 rfl) ?_
  refine lv_iload_n hx hb dX3_may_1 rfl (lv_at hl 1 rfl) ?_
  refine mc_V (b := om) (As := [.int x1]) (rest := []) ⟨hx, hb, hml, hown, hts⟩ (c_X3_isThere l D tys ad L g  om fz cj kn kc kr kt kw ff cv x1 hL_om hL_fz hL_cj hg_om hg_fz hg_cj ne_fz_om ne_cj_om htJ htZ) (cwV 1 hts gX3_may_X3_isThere rfl rfl rfl hd_X3_isThere ⟨Nat.le_of_ble_eq_true rfl, Nat.le_of_ble_eq_true rfl⟩) (pg_recv hK hP hL_om hg_om rfl) (fun U hU hvm => WM hP hK hD hKC0 hTC hS hU hvm) hXN hS (fun _ h => h) rfl hl.1 rfl (lv_room (Nat.le_of_ble_eq_true rfl)) dX3_may_2 ⟨Nat.le_of_ble_eq_true rfl, Nat.le_of_ble_eq_true rfl⟩ (fun g1 H locs hp9 hP hD hS => ?_)
  refine W.eq (g2 := F0 m 5 ls [.int ((fX3_isThere kn kc kr kt kw ff cv x1).1)]) rfl ?_
  obtain ⟨hn9_om, hr9⟩ := hp9
  have hg_om : g1 om = .inr (3, [.ref fz, .ref cj, .int kn, .int kc, .int kr, .int ((fX3_isThere kn kc kr kt kw ff cv x1).2), .long kw]) := hn9_om
  have hg_fz : g1 fz = .inl (cyZ, 8, .inl ff) := (hr9 fz ne_fz_om).trans hg_fz
  have hg_cj : g1 cj = .inl (cyJ, 56, .inr (.inl cv)) := (hr9 cj ne_cj_om).trans hg_cj
  have hrs : ∀ q : Nat, q ≠ om → g1 q = g q := fun q h_om => (hr9 q h_om).trans (hrs q h_om)
  refine lv_if_eq (tgt := 26) hx hb dX3_may_5 (by decide) (fun c_1 => ?_) (fun c_1 => ?_)
  · refine lv_aload_n hx hb dX3_may_26 rfl (lv_at hl 0 rfl) ?_
    refine pg_get hx hb hts hin_X3_X3_may hown hK hP hL_om hg_om rfl 5 (by decide) (hts (.fieldLink RX3 17 "NeedleBoardModel" "thrown" "I") (by decide +kernel)) rfl dX3_may_27 ?_
    refine lv_if_ne (tgt := 37) hx hb dX3_may_30 (by decide) (fun c_2 => ?_) (fun c_2 => ?_)
    · refine lv_iconst (v := 0) hx hb dX3_may_37 (by decide) ?_
      have hF : fX3_may kn kc kr kt kw ff cv x1 x2 = ((0 : Int32), (fX3_isThere kn kc kr kt kw ff cv x1).2) := (by unfold fX3_may; rw [if_pos c_1, if_neg c_2])
      have hF0 : (fX3_may kn kc kr kt kw ff cv x1 x2).1 = (0 : Int32) := by rw [hF]
      have hF1 : (fX3_may kn kc kr kt kw ff cv x1 x2).2 = (fX3_isThere kn kc kr kt kw ff cv x1).2 := by rw [hF]
      exact W.zret hx hb hr (by decide) (fun t ht hW => ⟨congrArg (fun z => Outcome.returned (some (Value.int z))) hF0.symm, ⟨g1, WM hP hK hD hKC0 hTC hS ht hW.alike, by rw [hF1]; exact ⟨hg_om, hrs⟩⟩, hS.F ht⟩) (fun q h => hS.2.2 q h) dX3_may_38
    · refine lv_iconst (v := 1) hx hb dX3_may_33 (by decide) ?_
      refine lv_goto (tgt := 38) hx hb dX3_may_34 (by decide) ?_
      have hF : fX3_may kn kc kr kt kw ff cv x1 x2 = ((1 : Int32), (fX3_isThere kn kc kr kt kw ff cv x1).2) := (by unfold fX3_may; rw [if_pos c_1, if_pos c_2])
      have hF0 : (fX3_may kn kc kr kt kw ff cv x1 x2).1 = (1 : Int32) := by rw [hF]
      have hF1 : (fX3_may kn kc kr kt kw ff cv x1 x2).2 = (fX3_isThere kn kc kr kt kw ff cv x1).2 := by rw [hF]
      exact W.zret hx hb hr (by decide) (fun t ht hW => ⟨congrArg (fun z => Outcome.returned (some (Value.int z))) hF0.symm, ⟨g1, WM hP hK hD hKC0 hTC hS ht hW.alike, by rw [hF1]; exact ⟨hg_om, hrs⟩⟩, hS.F ht⟩) (fun q h => hS.2.2 q h) dX3_may_38
  · refine lv_aload_n hx hb dX3_may_8 rfl (lv_at hl 0 rfl) ?_
    refine pg_get hx hb hts hin_X3_X3_may hown hK hP hL_om hg_om rfl 0 (by decide) (hts (.fieldLink RX3 7 "NeedleBoardModel" "isFine" "[Z") (by decide +kernel)) rfl dX3_may_9 ?_
    refine lv_iload_n hx hb dX3_may_12 rfl (lv_at hl 1 rfl) ?_
    refine pg_zald hx hb hK hP 1 hL_fz hg_fz htZ (it_in hkn c_1) dX3_may_13 ?_
    refine lv_lload_n hx hb dX3_may_14 rfl (lv_at hl 2 rfl) ?_
    refine pc_0 (As := [.int (ff x1.toNatClampNeg), .long x2]) (rest := []) (r := .int (fX3_isNumber (ff x1.toNatClampNeg) x2)) ⟨hx, hb, hml, hown, hts⟩ (c_X3_isNumber l (ff x1.toNatClampNeg) x2) (va_cwS 2 hts gX3_may_X3_isNumber rfl rfl rfl hd_X3_isNumber ⟨Nat.le_of_ble_eq_true rfl, Nat.le_of_ble_eq_true rfl⟩) rfl hl.1 rfl (lv_room (Nat.le_of_ble_eq_true rfl)) dX3_may_15 ⟨Nat.le_of_ble_eq_true rfl, Nat.le_of_ble_eq_true rfl⟩ ?_
    refine lv_if_ne (tgt := 26) hx hb dX3_may_18 (by decide) (fun c_3 => ?_) (fun c_3 => ?_)
    · refine lv_aload_n hx hb dX3_may_26 rfl (lv_at hl 0 rfl) ?_
      refine pg_get hx hb hts hin_X3_X3_may hown hK hP hL_om hg_om rfl 5 (by decide) (hts (.fieldLink RX3 17 "NeedleBoardModel" "thrown" "I") (by decide +kernel)) rfl dX3_may_27 ?_
      refine lv_if_ne (tgt := 37) hx hb dX3_may_30 (by decide) (fun c_4 => ?_) (fun c_4 => ?_)
      · refine lv_iconst (v := 0) hx hb dX3_may_37 (by decide) ?_
        have hF : fX3_may kn kc kr kt kw ff cv x1 x2 = ((0 : Int32), (fX3_isThere kn kc kr kt kw ff cv x1).2) := (by unfold fX3_may; rw [if_neg c_1, if_neg c_3, if_neg c_4])
        have hF0 : (fX3_may kn kc kr kt kw ff cv x1 x2).1 = (0 : Int32) := by rw [hF]
        have hF1 : (fX3_may kn kc kr kt kw ff cv x1 x2).2 = (fX3_isThere kn kc kr kt kw ff cv x1).2 := by rw [hF]
        exact W.zret hx hb hr (by decide) (fun t ht hW => ⟨congrArg (fun z => Outcome.returned (some (Value.int z))) hF0.symm, ⟨g1, WM hP hK hD hKC0 hTC hS ht hW.alike, by rw [hF1]; exact ⟨hg_om, hrs⟩⟩, hS.F ht⟩) (fun q h => hS.2.2 q h) dX3_may_38
      · refine lv_iconst (v := 1) hx hb dX3_may_33 (by decide) ?_
        refine lv_goto (tgt := 38) hx hb dX3_may_34 (by decide) ?_
        have hF : fX3_may kn kc kr kt kw ff cv x1 x2 = ((1 : Int32), (fX3_isThere kn kc kr kt kw ff cv x1).2) := (by unfold fX3_may; rw [if_neg c_1, if_neg c_3, if_pos c_4])
        have hF0 : (fX3_may kn kc kr kt kw ff cv x1 x2).1 = (1 : Int32) := by rw [hF]
        have hF1 : (fX3_may kn kc kr kt kw ff cv x1 x2).2 = (fX3_isThere kn kc kr kt kw ff cv x1).2 := by rw [hF]
        exact W.zret hx hb hr (by decide) (fun t ht hW => ⟨congrArg (fun z => Outcome.returned (some (Value.int z))) hF0.symm, ⟨g1, WM hP hK hD hKC0 hTC hS ht hW.alike, by rw [hF1]; exact ⟨hg_om, hrs⟩⟩, hS.F ht⟩) (fun q h => hS.2.2 q h) dX3_may_38
    · refine lv_aload_n hx hb dX3_may_21 rfl (lv_at hl 0 rfl) ?_
      refine lv_iconst (v := 2) hx hb dX3_may_22 (by decide) ?_
      refine pg_put (ty := .int) hx hb hts hin_X3_X3_may tyX3 tyX3_ok nmX3 hown hK hP hD hS hL_om hg_om rfl 5 (by decide) (hts (.fieldLink RX3 17 "NeedleBoardModel" "thrown" "I") (by decide +kernel)) rfl (by decide +kernel) rfl rfl (Nat.le_of_ble_eq_true rfl) dX3_may_23 (fun H locs hP hD hS => ?_)
      obtain ⟨g2, eg2⟩ : ∃ z : Nat → va_E, z = va_up g1 om (.inr (3, [.ref fz, .ref cj, .int kn, .int kc, .int kr, .int (2 : Int32), .long kw])) := ⟨_, rfl⟩
      have hP : va_P D vwCl (va_pl L g2) H := by rw [eg2]; exact hP
      have hD : va_D (fun q => q ∈ L) (va_pl L g2) := by rw [eg2]; exact hD
      have hg_om : g2 om = .inr (3, [.ref fz, .ref cj, .int kn, .int kc, .int kr, .int (2 : Int32), .long kw]) := by rw [eg2]; exact va_up_self _ _ _
      have hg_fz : g2 fz = .inl (cyZ, 8, .inl ff) := (congrFun eg2 fz).trans ((va_up_ne _ _ ne_fz_om).trans hg_fz)
      have hg_cj : g2 cj = .inl (cyJ, 56, .inr (.inl cv)) := (congrFun eg2 cj).trans ((va_up_ne _ _ ne_cj_om).trans hg_cj)
      have hrs : ∀ q : Nat, q ≠ om → g2 q = g q := fun q h_om => (congrFun eg2 q).trans ((va_up_ne _ _ h_om).trans (hrs q h_om))
      refine lv_aload_n hx hb dX3_may_26 rfl (lv_at hl 0 rfl) ?_
      refine pg_get hx hb hts hin_X3_X3_may hown hK hP hL_om hg_om rfl 5 (by decide) (hts (.fieldLink RX3 17 "NeedleBoardModel" "thrown" "I") (by decide +kernel)) rfl dX3_may_27 ?_
      refine lv_if_ne (tgt := 37) hx hb dX3_may_30 (by decide) (fun _ => ?_) (fun h9 => absurd h9 (by decide))
      refine lv_iconst (v := 0) hx hb dX3_may_37 (by decide) ?_
      have hF : fX3_may kn kc kr kt kw ff cv x1 x2 = ((0 : Int32), (2 : Int32)) := (by unfold fX3_may; rw [if_neg c_1, if_pos c_3])
      have hF0 : (fX3_may kn kc kr kt kw ff cv x1 x2).1 = (0 : Int32) := by rw [hF]
      have hF1 : (fX3_may kn kc kr kt kw ff cv x1 x2).2 = (2 : Int32) := by rw [hF]
      exact W.zret hx hb hr (by decide) (fun t ht hW => ⟨congrArg (fun z => Outcome.returned (some (Value.int z))) hF0.symm, ⟨g2, WM hP hK hD hKC0 hTC hS ht hW.alike, by rw [hF1]; exact ⟨hg_om, hrs⟩⟩, hS.F ht⟩) (fun q h => hS.2.2 q h) dX3_may_38
theorem may_in {kn kc kr kt : Int32} {kw : Int64} {ff : Nat → Int32} {cv : Nat → Int64} {x1 : Int32} {x2 : Int64} (hkn : 0 ≤ kn ∧ kn ≤ 8) (h : ¬ (fX3_may kn kc kr kt kw ff cv x1 x2).1 = 0) : vp_in x1 8 := by
  unfold fX3_may at h
  by_cases h1 : (fX3_isThere kn kc kr kt kw ff cv x1).1 = 0
  · exfalso; revert h; simp only [h1]; unfold fX3_isThere at h1 ⊢; repeat' split
    all_goals simp_all
  · exact it_in hkn h1
def fX3_within (kn : Int32) (kc : Int32) (kr : Int32) (kt : Int32) (kw : Int64) (ff : Nat → Int32) (cv : Nat → Int64) (x1 : Int32) (x2 : Int64) : Int64 :=
  if (fX3_rank (ff x1.toNatClampNeg) (fX3_get kn kc kr kt kw ff cv x1 (0 : Int32))) ≤ (fX3_rank (ff x1.toNatClampNeg) x2) then
    if (fX3_rank (ff x1.toNatClampNeg) x2) ≤ (fX3_rank (ff x1.toNatClampNeg) (fX3_get kn kc kr kt kw ff cv x1 (1 : Int32))) then
      x2
    else
      fX3_get kn kc kr kt kw ff cv x1 (1 : Int32)
  else
    fX3_get kn kc kr kt kw ff cv x1 (0 : Int32)
theorem hd_X3_within : yX3_within.cls = RX3 ∧ yX3_within.cls ≠ "java/lang/invoke/MethodHandle" ∧ yX3_within.cls ≠ "java/lang/invoke/VarHandle" ∧ (parseMethodDescriptor yX3_within.desc).map (fun d => d.parameters.length) = some 2 := by decide +kernel
theorem hin_X3_X3_within : ∀ w ∈ wsX30, w ∈ wsX3_within := by decide +kernel
set_option maxHeartbeats 1000000 in
set_option maxRecDepth 100000 in
theorem c_X3_within (l : Launch) {cyJ : ClassId} {cyZ : ClassId} (D : va_G) (tys : List (ClassId × FieldType)) (ad : Nat → Nat) (L : List Nat) (g : Nat → va_E) (om fz cj : Nat) (kn : Int32) (kc : Int32) (kr : Int32) (kt : Int32) (kw : Int64) (ff : Nat → Int32) (cv : Nat → Int64) (x1 : Int32) (x2 : Int64) (hL_om : om ∈ L) (hL_fz : fz ∈ L) (hL_cj : cj ∈ L) (hg_om : g om = .inr (3, [.ref fz, .ref cj, .int kn, .int kc, .int kr, .int kt, .long kw])) (hg_fz : g fz = .inl (cyZ, 8, .inl ff)) (hg_cj : g cj = .inl (cyJ, 56, .inr (.inl cv))) (htJ : tys[0]? = some (cyJ, .long)) (htZ : tys[1]? = some (cyZ, .boolean)) (hn : vp_in x1 8) : Met l yX3_within wsX3_within ({ frames := 2, cells := 0, slots := 0, locals := 44 }) (PW D tys ad L g [.ref om, .int x1, .long x2]) (k2_QcV (.long (fX3_within kn kc kr kt kw ff cv x1 x2))) 0 0 (fun _ => False) := by
  refine Met.ofW (cc := cX3_within) (maxL := 5) (ret := (some .long)) (by decide) rfl ?_
  intro p e s m args below meth c s₁ B hml hv
  obtain ⟨rfl, ⟨hP, hK, hD0, hKC0, hTC⟩, hXN⟩ := hv
  have hP0 := hP
  have hD : va_D (fun q => q ∈ L) (va_pl L g) := we_D (fun _ h => h) hD0
  have hKC : KC ad (fun q => q ∈ L) s s.heap := hKC0.narrow (fun _ h => Or.inl h)
  have hS : va_S (fun q => q ∈ L) s.heap s.heap [] := va_S.rf
  have hx := B.exec
  have hb := B.bytes
  have hr := B.returns
  have hts := atoms_spec (ws := wsX3_within) B.pre
  have hown : s.vm.findClass RX3 = some m.cls := findClass_of_methodNamed B.named
  have hlocks := B.notSynchronized
  have hl := lv_entry ([.ref om, .int x1, .long x2]) (n := 5) (Nat.le_of_ble_eq_true rfl)
  rw [lg_entry_eq]
  generalize (lg_sl ([.ref om, .int x1, .long x2]) ++ List.replicate (5 - (lg_sl ([.ref om, .int x1, .long x2])).length) Slot.unset).toArray = ls at hl ⊢
  have hl : lv_has ls 5 [(0, .ref om), (1, .int x1), (2, .long x2)] := hl
  refine lv_aload_n hx hb dX3_within_0 rfl (lv_at hl 0 rfl) ?_
  refine pg_get hx hb hts hin_X3_X3_within hown hK hP hL_om hg_om rfl 0 (by decide) (hts (.fieldLink RX3 7 "NeedleBoardModel" "isFine" "[Z") (by decide +kernel)) rfl dX3_within_1 ?_
  refine lv_iload_n hx hb dX3_within_4 rfl (lv_at hl 1 rfl) ?_
  refine pg_zald hx hb hK hP 1 hL_fz hg_fz htZ hn dX3_within_5 ?_
  refine lv_istore (lv' := [(4, .int (ff x1.toNatClampNeg)), (0, .ref om), (1, .int x1), (2, .long x2)]) hx hb dX3_within_6 hl (by decide) rfl (fun ls hl => ?_)
  refine lv_iload hx hb dX3_within_8 (lv_at hl 0 rfl) ?_
  refine lv_lload_n hx hb dX3_within_10 rfl (lv_at hl 3 rfl) ?_
  refine pc_0 (As := [.int (ff x1.toNatClampNeg), .long x2]) (rest := []) (r := .long (fX3_rank (ff x1.toNatClampNeg) x2)) ⟨hx, hb, hml, hown, hts⟩ (c_X3_rank l (ff x1.toNatClampNeg) x2) (va_cwS 2 hts gX3_within_X3_rank rfl rfl rfl hd_X3_rank ⟨Nat.le_of_ble_eq_true rfl, Nat.le_of_ble_eq_true rfl⟩) rfl hl.1 rfl (lv_room (Nat.le_of_ble_eq_true rfl)) dX3_within_11 ⟨Nat.le_of_ble_eq_true rfl, Nat.le_of_ble_eq_true rfl⟩ ?_
  refine lv_iload hx hb dX3_within_14 (lv_at hl 0 rfl) ?_
  refine lv_aload_n hx hb dX3_within_16 rfl (lv_at hl 1 rfl) ?_
  refine lv_iload_n hx hb dX3_within_17 rfl (lv_at hl 2 rfl) ?_
  refine lv_iconst (v := 0) hx hb dX3_within_18 (by decide) ?_
  refine rc_V (b := om) (r := .long (fX3_get kn kc kr kt kw ff cv x1 (0 : Int32))) (As := [.int x1, .int (0 : Int32)]) (rest := [.int (ff x1.toNatClampNeg), .long (fX3_rank (ff x1.toNatClampNeg) x2)]) ⟨hx, hb, hml, hown, hts⟩ (c_X3_get l D tys ad L g  om fz cj kn kc kr kt kw ff cv x1 (0 : Int32) hL_om hL_fz hL_cj hg_om hg_fz hg_cj htJ htZ (ix_in hn (by unfold vp_in; decide))) (cwV 2 hts gX3_within_X3_get rfl rfl rfl hd_X3_get ⟨Nat.le_of_ble_eq_true rfl, Nat.le_of_ble_eq_true rfl⟩) (pg_recv hK hP hL_om hg_om rfl) (fun U hU hvm => WM hP hK hD hKC0 hTC hS hU hvm) hXN rfl hl.1 rfl (lv_room (Nat.le_of_ble_eq_true rfl)) dX3_within_19 ⟨Nat.le_of_ble_eq_true rfl, Nat.le_of_ble_eq_true rfl⟩ ?_
  refine pc_0 (As := [.int (ff x1.toNatClampNeg), .long (fX3_get kn kc kr kt kw ff cv x1 (0 : Int32))]) (rest := [.long (fX3_rank (ff x1.toNatClampNeg) x2)]) (r := .long (fX3_rank (ff x1.toNatClampNeg) (fX3_get kn kc kr kt kw ff cv x1 (0 : Int32)))) ⟨hx, hb, hml, hown, hts⟩ (c_X3_rank l (ff x1.toNatClampNeg) (fX3_get kn kc kr kt kw ff cv x1 (0 : Int32))) (va_cwS 2 hts gX3_within_X3_rank rfl rfl rfl hd_X3_rank ⟨Nat.le_of_ble_eq_true rfl, Nat.le_of_ble_eq_true rfl⟩) rfl hl.1 rfl (lv_room (Nat.le_of_ble_eq_true rfl)) dX3_within_22 ⟨Nat.le_of_ble_eq_true rfl, Nat.le_of_ble_eq_true rfl⟩ ?_
  refine pl_ge (tgt := 36) hx hb dX3_within_25 dX3_within_26 (by decide) (fun c_1 => ?_) (fun c_1 => ?_)
  · refine lv_iload hx hb dX3_within_36 (lv_at hl 0 rfl) ?_
    refine lv_lload_n hx hb dX3_within_38 rfl (lv_at hl 3 rfl) ?_
    refine pc_0 (As := [.int (ff x1.toNatClampNeg), .long x2]) (rest := []) (r := .long (fX3_rank (ff x1.toNatClampNeg) x2)) ⟨hx, hb, hml, hown, hts⟩ (c_X3_rank l (ff x1.toNatClampNeg) x2) (va_cwS 2 hts gX3_within_X3_rank rfl rfl rfl hd_X3_rank ⟨Nat.le_of_ble_eq_true rfl, Nat.le_of_ble_eq_true rfl⟩) rfl hl.1 rfl (lv_room (Nat.le_of_ble_eq_true rfl)) dX3_within_39 ⟨Nat.le_of_ble_eq_true rfl, Nat.le_of_ble_eq_true rfl⟩ ?_
    refine lv_iload hx hb dX3_within_42 (lv_at hl 0 rfl) ?_
    refine lv_aload_n hx hb dX3_within_44 rfl (lv_at hl 1 rfl) ?_
    refine lv_iload_n hx hb dX3_within_45 rfl (lv_at hl 2 rfl) ?_
    refine lv_iconst (v := 1) hx hb dX3_within_46 (by decide) ?_
    refine rc_V (b := om) (r := .long (fX3_get kn kc kr kt kw ff cv x1 (1 : Int32))) (As := [.int x1, .int (1 : Int32)]) (rest := [.int (ff x1.toNatClampNeg), .long (fX3_rank (ff x1.toNatClampNeg) x2)]) ⟨hx, hb, hml, hown, hts⟩ (c_X3_get l D tys ad L g  om fz cj kn kc kr kt kw ff cv x1 (1 : Int32) hL_om hL_fz hL_cj hg_om hg_fz hg_cj htJ htZ (ix_in hn (by unfold vp_in; decide))) (cwV 2 hts gX3_within_X3_get rfl rfl rfl hd_X3_get ⟨Nat.le_of_ble_eq_true rfl, Nat.le_of_ble_eq_true rfl⟩) (pg_recv hK hP hL_om hg_om rfl) (fun U hU hvm => WM hP hK hD hKC0 hTC hS hU hvm) hXN rfl hl.1 rfl (lv_room (Nat.le_of_ble_eq_true rfl)) dX3_within_47 ⟨Nat.le_of_ble_eq_true rfl, Nat.le_of_ble_eq_true rfl⟩ ?_
    refine pc_0 (As := [.int (ff x1.toNatClampNeg), .long (fX3_get kn kc kr kt kw ff cv x1 (1 : Int32))]) (rest := [.long (fX3_rank (ff x1.toNatClampNeg) x2)]) (r := .long (fX3_rank (ff x1.toNatClampNeg) (fX3_get kn kc kr kt kw ff cv x1 (1 : Int32)))) ⟨hx, hb, hml, hown, hts⟩ (c_X3_rank l (ff x1.toNatClampNeg) (fX3_get kn kc kr kt kw ff cv x1 (1 : Int32))) (va_cwS 2 hts gX3_within_X3_rank rfl rfl rfl hd_X3_rank ⟨Nat.le_of_ble_eq_true rfl, Nat.le_of_ble_eq_true rfl⟩) rfl hl.1 rfl (lv_room (Nat.le_of_ble_eq_true rfl)) dX3_within_50 ⟨Nat.le_of_ble_eq_true rfl, Nat.le_of_ble_eq_true rfl⟩ ?_
    refine pl_le (tgt := 66) hx hb dX3_within_53 dX3_within_54 (by decide) (fun c_2 => ?_) (fun c_2 => ?_)
    · refine lv_lload_n hx hb dX3_within_66 rfl (lv_at hl 3 rfl) ?_
      have hF : fX3_within kn kc kr kt kw ff cv x1 x2 = x2 := (by unfold fX3_within; rw [if_pos c_1, if_pos c_2])
      have hF0 := hF
      exact W.lret hx hb hr (fun t ht _ => ⟨congrArg (fun z => Outcome.returned (some (Value.long z))) hF0.symm, ht⟩) (fun _ h => nomatch h) dX3_within_67
    · refine lv_aload_n hx hb dX3_within_57 rfl (lv_at hl 1 rfl) ?_
      refine lv_iload_n hx hb dX3_within_58 rfl (lv_at hl 2 rfl) ?_
      refine lv_iconst (v := 1) hx hb dX3_within_59 (by decide) ?_
      refine rc_V (b := om) (r := .long (fX3_get kn kc kr kt kw ff cv x1 (1 : Int32))) (As := [.int x1, .int (1 : Int32)]) (rest := []) ⟨hx, hb, hml, hown, hts⟩ (c_X3_get l D tys ad L g  om fz cj kn kc kr kt kw ff cv x1 (1 : Int32) hL_om hL_fz hL_cj hg_om hg_fz hg_cj htJ htZ (ix_in hn (by unfold vp_in; decide))) (cwV 2 hts gX3_within_X3_get rfl rfl rfl hd_X3_get ⟨Nat.le_of_ble_eq_true rfl, Nat.le_of_ble_eq_true rfl⟩) (pg_recv hK hP hL_om hg_om rfl) (fun U hU hvm => WM hP hK hD hKC0 hTC hS hU hvm) hXN rfl hl.1 rfl (lv_room (Nat.le_of_ble_eq_true rfl)) dX3_within_60 ⟨Nat.le_of_ble_eq_true rfl, Nat.le_of_ble_eq_true rfl⟩ ?_
      refine lv_goto (tgt := 67) hx hb dX3_within_63 (by decide) ?_
      have hF : fX3_within kn kc kr kt kw ff cv x1 x2 = fX3_get kn kc kr kt kw ff cv x1 (1 : Int32) := (by unfold fX3_within; rw [if_pos c_1, if_neg c_2])
      have hF0 := hF
      exact W.lret hx hb hr (fun t ht _ => ⟨congrArg (fun z => Outcome.returned (some (Value.long z))) hF0.symm, ht⟩) (fun _ h => nomatch h) dX3_within_67
  · refine lv_aload_n hx hb dX3_within_29 rfl (lv_at hl 1 rfl) ?_
    refine lv_iload_n hx hb dX3_within_30 rfl (lv_at hl 2 rfl) ?_
    refine lv_iconst (v := 0) hx hb dX3_within_31 (by decide) ?_
    refine rc_V (b := om) (r := .long (fX3_get kn kc kr kt kw ff cv x1 (0 : Int32))) (As := [.int x1, .int (0 : Int32)]) (rest := []) ⟨hx, hb, hml, hown, hts⟩ (c_X3_get l D tys ad L g  om fz cj kn kc kr kt kw ff cv x1 (0 : Int32) hL_om hL_fz hL_cj hg_om hg_fz hg_cj htJ htZ (ix_in hn (by unfold vp_in; decide))) (cwV 2 hts gX3_within_X3_get rfl rfl rfl hd_X3_get ⟨Nat.le_of_ble_eq_true rfl, Nat.le_of_ble_eq_true rfl⟩) (pg_recv hK hP hL_om hg_om rfl) (fun U hU hvm => WM hP hK hD hKC0 hTC hS hU hvm) hXN rfl hl.1 rfl (lv_room (Nat.le_of_ble_eq_true rfl)) dX3_within_32 ⟨Nat.le_of_ble_eq_true rfl, Nat.le_of_ble_eq_true rfl⟩ ?_
    have hF : fX3_within kn kc kr kt kw ff cv x1 x2 = fX3_get kn kc kr kt kw ff cv x1 (0 : Int32) := (by unfold fX3_within; rw [if_neg c_1])
    have hF0 := hF
    exact W.lret hx hb hr (fun t ht _ => ⟨congrArg (fun z => Outcome.returned (some (Value.long z))) hF0.symm, ht⟩) (fun _ h => nomatch h) dX3_within_35
def fX3_fresh (kn : Int32) (kc : Int32) (kr : Int32) (kt : Int32) (kw : Int64) (ff : Nat → Int32) (cv : Nat → Int64) (x1 : Int32) : (Nat → Int64) :=
  let v6_1 : Int64 := fX3_within kn kc kr kt kw ff cv x1 (0 : Int64)
  fX3_set kn kc kr kt kw ff (fX3_set kn kc kr kt kw ff (fX3_set kn kc kr kt kw ff (fX3_set kn kc kr kt kw ff cv x1 (2 : Int32) v6_1) x1 (4 : Int32) v6_1) x1 (5 : Int32) v6_1) x1 (6 : Int32) (fX3_sizeOf (ff x1.toNatClampNeg) v6_1)
theorem hd_X3_fresh : yX3_fresh.cls = RX3 ∧ yX3_fresh.cls ≠ "java/lang/invoke/MethodHandle" ∧ yX3_fresh.cls ≠ "java/lang/invoke/VarHandle" ∧ (parseMethodDescriptor yX3_fresh.desc).map (fun d => d.parameters.length) = some 1 := by decide +kernel
theorem hin_X3_X3_fresh : ∀ w ∈ wsX30, w ∈ wsX3_fresh := by decide +kernel
set_option maxHeartbeats 1000000 in
set_option maxRecDepth 100000 in
theorem c_X3_fresh (l : Launch) {cyJ : ClassId} {cyZ : ClassId} (D : va_G) (tys : List (ClassId × FieldType)) (ad : Nat → Nat) (L : List Nat) (g : Nat → va_E) (om fz cj : Nat) (kn : Int32) (kc : Int32) (kr : Int32) (kt : Int32) (kw : Int64) (ff : Nat → Int32) (cv : Nat → Int64) (x1 : Int32) (hL_om : om ∈ L) (hL_fz : fz ∈ L) (hL_cj : cj ∈ L) (hg_om : g om = .inr (3, [.ref fz, .ref cj, .int kn, .int kc, .int kr, .int kt, .long kw])) (hg_fz : g fz = .inl (cyZ, 8, .inl ff)) (hg_cj : g cj = .inl (cyJ, 56, .inr (.inl cv))) (ne_om_cj : om ≠ cj) (ne_fz_cj : fz ≠ cj) (htJ : tys[0]? = some (cyJ, .long)) (htZ : tys[1]? = some (cyZ, .boolean)) (hn : vp_in x1 8) : Met l yX3_fresh wsX3_fresh ({ frames := 3, cells := 0, slots := 0, locals := 68 }) (PW D tys ad L g [.ref om, .int x1]) (QE D tys ad L none (fun g1 => g1 cj = .inl (cyJ, 56, .inr (.inl (fX3_fresh kn kc kr kt kw ff cv x1))) ∧ ∀ q : Nat, q ≠ cj → g1 q = g q)) 0 0 (fun q => q ∈ L) := by
  refine Met.ofW (cc := cX3_fresh) (maxL := 4) (ret := none) (by decide) rfl ?_
  intro p e s m args below meth c s₁ B hml hv
  obtain ⟨rfl, ⟨hP, hK, hD0, hKC0, hTC⟩, hXN⟩ := hv
  have hP0 := hP
  have hD : va_D (fun q => q ∈ L) (va_pl L g) := we_D (fun _ h => h) hD0
  have hKC : KC ad (fun q => q ∈ L) s s.heap := hKC0.narrow (fun _ h => Or.inl h)
  have hS : va_S (fun q => q ∈ L) s.heap s.heap [] := va_S.rf
  have hx := B.exec
  have hb := B.bytes
  have hr := B.returns
  have hts := atoms_spec (ws := wsX3_fresh) B.pre
  have hown : s.vm.findClass RX3 = some m.cls := findClass_of_methodNamed B.named
  have hlocks := B.notSynchronized
  have hrs : ∀ q : Nat, q ≠ cj → g q = g q := fun q _ => rfl
  have hl := lv_entry ([.ref om, .int x1]) (n := 4) (Nat.le_of_ble_eq_true rfl)
  rw [lg_entry_eq]
  generalize (lg_sl ([.ref om, .int x1]) ++ List.replicate (4 - (lg_sl ([.ref om, .int x1])).length) Slot.unset).toArray = ls at hl ⊢
  have hl : lv_has ls 4 [(0, .ref om), (1, .int x1)] := hl
  refine lv_aload_n hx hb dX3_fresh_0 rfl (lv_at hl 0 rfl) ?_
  refine lv_iload_n hx hb dX3_fresh_1 rfl (lv_at hl 1 rfl) ?_
  refine lv_lconst (v := 0) hx hb dX3_fresh_2 (by decide) ?_
  refine rc_V (b := om) (r := .long (fX3_within kn kc kr kt kw ff cv x1 (0 : Int64))) (As := [.int x1, .long (0 : Int64)]) (rest := []) ⟨hx, hb, hml, hown, hts⟩ (c_X3_within l D tys ad L g  om fz cj kn kc kr kt kw ff cv x1 (0 : Int64) hL_om hL_fz hL_cj hg_om hg_fz hg_cj htJ htZ hn) (cwV 2 hts gX3_fresh_X3_within rfl rfl rfl hd_X3_within ⟨Nat.le_of_ble_eq_true rfl, Nat.le_of_ble_eq_true rfl⟩) (pg_recv hK hP hL_om hg_om rfl) (fun U hU hvm => WM hP hK hD hKC0 hTC hS hU hvm) hXN rfl hl.1 rfl (lv_room (Nat.le_of_ble_eq_true rfl)) dX3_fresh_3 ⟨Nat.le_of_ble_eq_true rfl, Nat.le_of_ble_eq_true rfl⟩ ?_
  refine lv_topl (fun v6_1 e_v6_1 => ?_)
  refine lv_lstore_n (lv' := [(2, .long v6_1), (0, .ref om), (1, .int x1)]) hx hb dX3_fresh_6 rfl hl (by decide) rfl (fun ls hl => ?_)
  refine lv_aload_n hx hb dX3_fresh_7 rfl (lv_at hl 1 rfl) ?_
  refine lv_iload_n hx hb dX3_fresh_8 rfl (lv_at hl 2 rfl) ?_
  refine lv_iconst (v := 2) hx hb dX3_fresh_9 (by decide) ?_
  refine lv_lload_n hx hb dX3_fresh_10 rfl (lv_at hl 0 rfl) ?_
  refine mc_V (b := om) (As := [.int x1, .int (2 : Int32), .long v6_1]) (rest := []) ⟨hx, hb, hml, hown, hts⟩ (c_X3_set l D tys ad L g  om fz cj kn kc kr kt kw ff cv x1 (2 : Int32) v6_1 hL_om hL_fz hL_cj hg_om hg_fz hg_cj ne_om_cj ne_fz_cj htJ htZ (ix_in hn (by unfold vp_in; decide))) (cwV 3 hts gX3_fresh_X3_set rfl rfl rfl hd_X3_set ⟨Nat.le_of_ble_eq_true rfl, Nat.le_of_ble_eq_true rfl⟩) (pg_recv hK hP hL_om hg_om rfl) (fun U hU hvm => WM hP hK hD hKC0 hTC hS hU hvm) hXN hS (fun _ h => h) rfl hl.1 rfl (lv_room (Nat.le_of_ble_eq_true rfl)) dX3_fresh_11 ⟨Nat.le_of_ble_eq_true rfl, Nat.le_of_ble_eq_true rfl⟩ (fun g1 H locs hp9 hP hD hS => ?_)
  refine W.eq (g2 := F0 m 14 ls []) rfl ?_
  obtain ⟨hn9_cj, hr9⟩ := hp9
  have hg_om : g1 om = .inr (3, [.ref fz, .ref cj, .int kn, .int kc, .int kr, .int kt, .long kw]) := (hr9 om ne_om_cj).trans hg_om
  have hg_fz : g1 fz = .inl (cyZ, 8, .inl ff) := (hr9 fz ne_fz_cj).trans hg_fz
  have hg_cj : g1 cj = .inl (cyJ, 56, .inr (.inl (fX3_set kn kc kr kt kw ff cv x1 (2 : Int32) v6_1))) := hn9_cj
  have hrs : ∀ q : Nat, q ≠ cj → g1 q = g q := fun q h_cj => (hr9 q h_cj).trans (hrs q h_cj)
  refine lv_aload_n hx hb dX3_fresh_14 rfl (lv_at hl 1 rfl) ?_
  refine lv_iload_n hx hb dX3_fresh_15 rfl (lv_at hl 2 rfl) ?_
  refine lv_iconst (v := 4) hx hb dX3_fresh_16 (by decide) ?_
  refine lv_lload_n hx hb dX3_fresh_17 rfl (lv_at hl 0 rfl) ?_
  refine mc_V (b := om) (As := [.int x1, .int (4 : Int32), .long v6_1]) (rest := []) ⟨hx, hb, hml, hown, hts⟩ (c_X3_set l D tys ad L g1  om fz cj kn kc kr kt kw ff (fX3_set kn kc kr kt kw ff cv x1 (2 : Int32) v6_1) x1 (4 : Int32) v6_1 hL_om hL_fz hL_cj hg_om hg_fz hg_cj ne_om_cj ne_fz_cj htJ htZ (ix_in hn (by unfold vp_in; decide))) (cwV 3 hts gX3_fresh_X3_set rfl rfl rfl hd_X3_set ⟨Nat.le_of_ble_eq_true rfl, Nat.le_of_ble_eq_true rfl⟩) (pg_recv hK hP hL_om hg_om rfl) (fun U hU hvm => WM hP hK hD hKC0 hTC hS hU hvm) hXN hS (fun _ h => h) rfl hl.1 rfl (lv_room (Nat.le_of_ble_eq_true rfl)) dX3_fresh_18 ⟨Nat.le_of_ble_eq_true rfl, Nat.le_of_ble_eq_true rfl⟩ (fun g2 H locs hp9 hP hD hS => ?_)
  refine W.eq (g2 := F0 m 21 ls []) rfl ?_
  obtain ⟨hn9_cj, hr9⟩ := hp9
  have hg_om : g2 om = .inr (3, [.ref fz, .ref cj, .int kn, .int kc, .int kr, .int kt, .long kw]) := (hr9 om ne_om_cj).trans hg_om
  have hg_fz : g2 fz = .inl (cyZ, 8, .inl ff) := (hr9 fz ne_fz_cj).trans hg_fz
  have hg_cj : g2 cj = .inl (cyJ, 56, .inr (.inl (fX3_set kn kc kr kt kw ff (fX3_set kn kc kr kt kw ff cv x1 (2 : Int32) v6_1) x1 (4 : Int32) v6_1))) := hn9_cj
  have hrs : ∀ q : Nat, q ≠ cj → g2 q = g q := fun q h_cj => (hr9 q h_cj).trans (hrs q h_cj)
  refine lv_aload_n hx hb dX3_fresh_21 rfl (lv_at hl 1 rfl) ?_
  refine lv_iload_n hx hb dX3_fresh_22 rfl (lv_at hl 2 rfl) ?_
  refine lv_iconst (v := 5) hx hb dX3_fresh_23 (by decide) ?_
  refine lv_lload_n hx hb dX3_fresh_24 rfl (lv_at hl 0 rfl) ?_
  refine mc_V (b := om) (As := [.int x1, .int (5 : Int32), .long v6_1]) (rest := []) ⟨hx, hb, hml, hown, hts⟩ (c_X3_set l D tys ad L g2  om fz cj kn kc kr kt kw ff (fX3_set kn kc kr kt kw ff (fX3_set kn kc kr kt kw ff cv x1 (2 : Int32) v6_1) x1 (4 : Int32) v6_1) x1 (5 : Int32) v6_1 hL_om hL_fz hL_cj hg_om hg_fz hg_cj ne_om_cj ne_fz_cj htJ htZ (ix_in hn (by unfold vp_in; decide))) (cwV 3 hts gX3_fresh_X3_set rfl rfl rfl hd_X3_set ⟨Nat.le_of_ble_eq_true rfl, Nat.le_of_ble_eq_true rfl⟩) (pg_recv hK hP hL_om hg_om rfl) (fun U hU hvm => WM hP hK hD hKC0 hTC hS hU hvm) hXN hS (fun _ h => h) rfl hl.1 rfl (lv_room (Nat.le_of_ble_eq_true rfl)) dX3_fresh_25 ⟨Nat.le_of_ble_eq_true rfl, Nat.le_of_ble_eq_true rfl⟩ (fun g3 H locs hp9 hP hD hS => ?_)
  refine W.eq (g2 := F0 m 28 ls []) rfl ?_
  obtain ⟨hn9_cj, hr9⟩ := hp9
  have hg_om : g3 om = .inr (3, [.ref fz, .ref cj, .int kn, .int kc, .int kr, .int kt, .long kw]) := (hr9 om ne_om_cj).trans hg_om
  have hg_fz : g3 fz = .inl (cyZ, 8, .inl ff) := (hr9 fz ne_fz_cj).trans hg_fz
  have hg_cj : g3 cj = .inl (cyJ, 56, .inr (.inl (fX3_set kn kc kr kt kw ff (fX3_set kn kc kr kt kw ff (fX3_set kn kc kr kt kw ff cv x1 (2 : Int32) v6_1) x1 (4 : Int32) v6_1) x1 (5 : Int32) v6_1))) := hn9_cj
  have hrs : ∀ q : Nat, q ≠ cj → g3 q = g q := fun q h_cj => (hr9 q h_cj).trans (hrs q h_cj)
  refine lv_aload_n hx hb dX3_fresh_28 rfl (lv_at hl 1 rfl) ?_
  refine lv_iload_n hx hb dX3_fresh_29 rfl (lv_at hl 2 rfl) ?_
  refine lv_bipush (v := (6)) hx hb dX3_fresh_30 (by decide) ?_
  refine lv_aload_n hx hb dX3_fresh_32 rfl (lv_at hl 1 rfl) ?_
  refine pg_get hx hb hts hin_X3_X3_fresh hown hK hP hL_om hg_om rfl 0 (by decide) (hts (.fieldLink RX3 7 "NeedleBoardModel" "isFine" "[Z") (by decide +kernel)) rfl dX3_fresh_33 ?_
  refine lv_iload_n hx hb dX3_fresh_36 rfl (lv_at hl 2 rfl) ?_
  refine pg_zald hx hb hK hP 1 hL_fz hg_fz htZ hn dX3_fresh_37 ?_
  refine lv_lload_n hx hb dX3_fresh_38 rfl (lv_at hl 0 rfl) ?_
  refine pc_0 (As := [.int (ff x1.toNatClampNeg), .long v6_1]) (rest := [.int (6 : Int32), .int x1, .ref om]) (r := .long (fX3_sizeOf (ff x1.toNatClampNeg) v6_1)) ⟨hx, hb, hml, hown, hts⟩ (c_X3_sizeOf l (ff x1.toNatClampNeg) v6_1) (va_cwS 2 hts gX3_fresh_X3_sizeOf rfl rfl rfl hd_X3_sizeOf ⟨Nat.le_of_ble_eq_true rfl, Nat.le_of_ble_eq_true rfl⟩) rfl hl.1 rfl (lv_room (Nat.le_of_ble_eq_true rfl)) dX3_fresh_39 ⟨Nat.le_of_ble_eq_true rfl, Nat.le_of_ble_eq_true rfl⟩ ?_
  refine mc_V (b := om) (As := [.int x1, .int (6 : Int32), .long (fX3_sizeOf (ff x1.toNatClampNeg) v6_1)]) (rest := []) ⟨hx, hb, hml, hown, hts⟩ (c_X3_set l D tys ad L g3  om fz cj kn kc kr kt kw ff (fX3_set kn kc kr kt kw ff (fX3_set kn kc kr kt kw ff (fX3_set kn kc kr kt kw ff cv x1 (2 : Int32) v6_1) x1 (4 : Int32) v6_1) x1 (5 : Int32) v6_1) x1 (6 : Int32) (fX3_sizeOf (ff x1.toNatClampNeg) v6_1) hL_om hL_fz hL_cj hg_om hg_fz hg_cj ne_om_cj ne_fz_cj htJ htZ (ix_in hn (by unfold vp_in; decide))) (cwV 3 hts gX3_fresh_X3_set rfl rfl rfl hd_X3_set ⟨Nat.le_of_ble_eq_true rfl, Nat.le_of_ble_eq_true rfl⟩) (pg_recv hK hP hL_om hg_om rfl) (fun U hU hvm => WM hP hK hD hKC0 hTC hS hU hvm) hXN hS (fun _ h => h) rfl hl.1 rfl (lv_room (Nat.le_of_ble_eq_true rfl)) dX3_fresh_42 ⟨Nat.le_of_ble_eq_true rfl, Nat.le_of_ble_eq_true rfl⟩ (fun g4 H locs hp9 hP hD hS => ?_)
  refine W.eq (g2 := F0 m 45 ls []) rfl ?_
  obtain ⟨hn9_cj, hr9⟩ := hp9
  have hg_om : g4 om = .inr (3, [.ref fz, .ref cj, .int kn, .int kc, .int kr, .int kt, .long kw]) := (hr9 om ne_om_cj).trans hg_om
  have hg_fz : g4 fz = .inl (cyZ, 8, .inl ff) := (hr9 fz ne_fz_cj).trans hg_fz
  have hg_cj : g4 cj = .inl (cyJ, 56, .inr (.inl (fX3_set kn kc kr kt kw ff (fX3_set kn kc kr kt kw ff (fX3_set kn kc kr kt kw ff (fX3_set kn kc kr kt kw ff cv x1 (2 : Int32) v6_1) x1 (4 : Int32) v6_1) x1 (5 : Int32) v6_1) x1 (6 : Int32) (fX3_sizeOf (ff x1.toNatClampNeg) v6_1)))) := hn9_cj
  have hrs : ∀ q : Nat, q ≠ cj → g4 q = g q := fun q h_cj => (hr9 q h_cj).trans (hrs q h_cj)
  have hF : fX3_fresh kn kc kr kt kw ff cv x1 = fX3_set kn kc kr kt kw ff (fX3_set kn kc kr kt kw ff (fX3_set kn kc kr kt kw ff (fX3_set kn kc kr kt kw ff cv x1 (2 : Int32) v6_1) x1 (4 : Int32) v6_1) x1 (5 : Int32) v6_1) x1 (6 : Int32) (fX3_sizeOf (ff x1.toNatClampNeg) v6_1) := (by subst e_v6_1; unfold fX3_fresh; dsimp only)
  have hF0 := hF
  exact W.vret hx hb hr (fun t ht hW => ⟨rfl, ⟨g4, WM hP hK hD hKC0 hTC hS ht hW.alike, by rw [hF0]; exact ⟨hg_cj, hrs⟩⟩, hS.F ht⟩) (fun q h => hS.2.2 q h) dX3_fresh_45
def fX3_becomes (kn : Int32) (kc : Int32) (kr : Int32) (kt : Int32) (kw : Int64) (ff : Nat → Int32) (cv : Nat → Int64) (x1 : Int32) (x2 : Int64) : Int64 × (Nat → Int64) × Int32 :=
  if (fX3_rank (ff x1.toNatClampNeg) (fX3_within kn kc kr kt kw ff cv x1 x2)) ≤ (fX3_rank (ff x1.toNatClampNeg) (fX3_get kn kc kr kt kw ff (fX3_set kn kc kr kt kw ff cv x1 (2 : Int32) (fX3_within kn kc kr kt kw ff cv x1 x2)) x1 (4 : Int32))) then
    if (fX3_rank (ff x1.toNatClampNeg) (fX3_get kn kc kr kt kw ff (fX3_set kn kc kr kt kw ff cv x1 (2 : Int32) (fX3_within kn kc kr kt kw ff cv x1 x2)) x1 (5 : Int32))) ≤ (fX3_rank (ff x1.toNatClampNeg) (fX3_within kn kc kr kt kw ff cv x1 x2)) then
      if (fX3_sizeOf (ff x1.toNatClampNeg) (fX3_within kn kc kr kt kw ff cv x1 x2)) ≤ (fX3_get kn kc kr kt kw ff (fX3_set kn kc kr kt kw ff cv x1 (2 : Int32) (fX3_within kn kc kr kt kw ff cv x1 x2)) x1 (6 : Int32)) then
        (fX3_within kn kc kr kt kw ff cv x1 x2, fX3_set kn kc kr kt kw ff cv x1 (2 : Int32) (fX3_within kn kc kr kt kw ff cv x1 x2), kc + (1 : Int32))
      else
        (fX3_within kn kc kr kt kw ff cv x1 x2, fX3_set kn kc kr kt kw ff (fX3_set kn kc kr kt kw ff cv x1 (2 : Int32) (fX3_within kn kc kr kt kw ff cv x1 x2)) x1 (6 : Int32) (fX3_sizeOf (ff x1.toNatClampNeg) (fX3_within kn kc kr kt kw ff cv x1 x2)), kc + (1 : Int32))
    else
      if (fX3_sizeOf (ff x1.toNatClampNeg) (fX3_within kn kc kr kt kw ff cv x1 x2)) ≤ (fX3_get kn kc kr kt kw ff (fX3_set kn kc kr kt kw ff (fX3_set kn kc kr kt kw ff cv x1 (2 : Int32) (fX3_within kn kc kr kt kw ff cv x1 x2)) x1 (5 : Int32) (fX3_within kn kc kr kt kw ff cv x1 x2)) x1 (6 : Int32)) then
        (fX3_within kn kc kr kt kw ff cv x1 x2, fX3_set kn kc kr kt kw ff (fX3_set kn kc kr kt kw ff cv x1 (2 : Int32) (fX3_within kn kc kr kt kw ff cv x1 x2)) x1 (5 : Int32) (fX3_within kn kc kr kt kw ff cv x1 x2), kc + (1 : Int32))
      else
        (fX3_within kn kc kr kt kw ff cv x1 x2, fX3_set kn kc kr kt kw ff (fX3_set kn kc kr kt kw ff (fX3_set kn kc kr kt kw ff cv x1 (2 : Int32) (fX3_within kn kc kr kt kw ff cv x1 x2)) x1 (5 : Int32) (fX3_within kn kc kr kt kw ff cv x1 x2)) x1 (6 : Int32) (fX3_sizeOf (ff x1.toNatClampNeg) (fX3_within kn kc kr kt kw ff cv x1 x2)), kc + (1 : Int32))
  else
    if (fX3_rank (ff x1.toNatClampNeg) (fX3_get kn kc kr kt kw ff (fX3_set kn kc kr kt kw ff (fX3_set kn kc kr kt kw ff cv x1 (2 : Int32) (fX3_within kn kc kr kt kw ff cv x1 x2)) x1 (4 : Int32) (fX3_within kn kc kr kt kw ff cv x1 x2)) x1 (5 : Int32))) ≤ (fX3_rank (ff x1.toNatClampNeg) (fX3_within kn kc kr kt kw ff cv x1 x2)) then
      if (fX3_sizeOf (ff x1.toNatClampNeg) (fX3_within kn kc kr kt kw ff cv x1 x2)) ≤ (fX3_get kn kc kr kt kw ff (fX3_set kn kc kr kt kw ff (fX3_set kn kc kr kt kw ff cv x1 (2 : Int32) (fX3_within kn kc kr kt kw ff cv x1 x2)) x1 (4 : Int32) (fX3_within kn kc kr kt kw ff cv x1 x2)) x1 (6 : Int32)) then
        (fX3_within kn kc kr kt kw ff cv x1 x2, fX3_set kn kc kr kt kw ff (fX3_set kn kc kr kt kw ff cv x1 (2 : Int32) (fX3_within kn kc kr kt kw ff cv x1 x2)) x1 (4 : Int32) (fX3_within kn kc kr kt kw ff cv x1 x2), kc + (1 : Int32))
      else
        (fX3_within kn kc kr kt kw ff cv x1 x2, fX3_set kn kc kr kt kw ff (fX3_set kn kc kr kt kw ff (fX3_set kn kc kr kt kw ff cv x1 (2 : Int32) (fX3_within kn kc kr kt kw ff cv x1 x2)) x1 (4 : Int32) (fX3_within kn kc kr kt kw ff cv x1 x2)) x1 (6 : Int32) (fX3_sizeOf (ff x1.toNatClampNeg) (fX3_within kn kc kr kt kw ff cv x1 x2)), kc + (1 : Int32))
    else
      if (fX3_sizeOf (ff x1.toNatClampNeg) (fX3_within kn kc kr kt kw ff cv x1 x2)) ≤ (fX3_get kn kc kr kt kw ff (fX3_set kn kc kr kt kw ff (fX3_set kn kc kr kt kw ff (fX3_set kn kc kr kt kw ff cv x1 (2 : Int32) (fX3_within kn kc kr kt kw ff cv x1 x2)) x1 (4 : Int32) (fX3_within kn kc kr kt kw ff cv x1 x2)) x1 (5 : Int32) (fX3_within kn kc kr kt kw ff cv x1 x2)) x1 (6 : Int32)) then
        (fX3_within kn kc kr kt kw ff cv x1 x2, fX3_set kn kc kr kt kw ff (fX3_set kn kc kr kt kw ff (fX3_set kn kc kr kt kw ff cv x1 (2 : Int32) (fX3_within kn kc kr kt kw ff cv x1 x2)) x1 (4 : Int32) (fX3_within kn kc kr kt kw ff cv x1 x2)) x1 (5 : Int32) (fX3_within kn kc kr kt kw ff cv x1 x2), kc + (1 : Int32))
      else
        (fX3_within kn kc kr kt kw ff cv x1 x2, fX3_set kn kc kr kt kw ff (fX3_set kn kc kr kt kw ff (fX3_set kn kc kr kt kw ff (fX3_set kn kc kr kt kw ff cv x1 (2 : Int32) (fX3_within kn kc kr kt kw ff cv x1 x2)) x1 (4 : Int32) (fX3_within kn kc kr kt kw ff cv x1 x2)) x1 (5 : Int32) (fX3_within kn kc kr kt kw ff cv x1 x2)) x1 (6 : Int32) (fX3_sizeOf (ff x1.toNatClampNeg) (fX3_within kn kc kr kt kw ff cv x1 x2)), kc + (1 : Int32))
theorem hd_X3_becomes : yX3_becomes.cls = RX3 ∧ yX3_becomes.cls ≠ "java/lang/invoke/MethodHandle" ∧ yX3_becomes.cls ≠ "java/lang/invoke/VarHandle" ∧ (parseMethodDescriptor yX3_becomes.desc).map (fun d => d.parameters.length) = some 2 := by decide +kernel
theorem hin_X3_X3_becomes : ∀ w ∈ wsX30, w ∈ wsX3_becomes := by decide +kernel
set_option maxHeartbeats 1000000 in
set_option maxRecDepth 100000 in
theorem c_X3_becomes (l : Launch) {cyJ : ClassId} {cyZ : ClassId} (D : va_G) (tys : List (ClassId × FieldType)) (ad : Nat → Nat) (L : List Nat) (g : Nat → va_E) (om fz cj : Nat) (kn : Int32) (kc : Int32) (kr : Int32) (kt : Int32) (kw : Int64) (ff : Nat → Int32) (cv : Nat → Int64) (x1 : Int32) (x2 : Int64) (hL_om : om ∈ L) (hL_fz : fz ∈ L) (hL_cj : cj ∈ L) (hg_om : g om = .inr (3, [.ref fz, .ref cj, .int kn, .int kc, .int kr, .int kt, .long kw])) (hg_fz : g fz = .inl (cyZ, 8, .inl ff)) (hg_cj : g cj = .inl (cyJ, 56, .inr (.inl cv))) (ne_om_cj : om ≠ cj) (ne_fz_om : fz ≠ om) (ne_fz_cj : fz ≠ cj) (ne_cj_om : cj ≠ om) (htJ : tys[0]? = some (cyJ, .long)) (htZ : tys[1]? = some (cyZ, .boolean)) (hn : vp_in x1 8) : Met l yX3_becomes wsX3_becomes ({ frames := 3, cells := 0, slots := 0, locals := 68 }) (PW D tys ad L g [.ref om, .int x1, .long x2]) (QE D tys ad L (some (.long ((fX3_becomes kn kc kr kt kw ff cv x1 x2).1))) (fun g1 => g1 om = .inr (3, [.ref fz, .ref cj, .int kn, .int ((fX3_becomes kn kc kr kt kw ff cv x1 x2).2.2), .int kr, .int kt, .long kw]) ∧ g1 cj = .inl (cyJ, 56, .inr (.inl ((fX3_becomes kn kc kr kt kw ff cv x1 x2).2.1))) ∧ ∀ q : Nat, q ≠ om → q ≠ cj → g1 q = g q)) 0 0 (fun q => q ∈ L) := by
  refine Met.ofW (cc := cX3_becomes) (maxL := 7) (ret := (some .long)) (by decide) rfl ?_
  intro p e s m args below meth c s₁ B hml hv
  obtain ⟨rfl, ⟨hP, hK, hD0, hKC0, hTC⟩, hXN⟩ := hv
  have hP0 := hP
  have hD : va_D (fun q => q ∈ L) (va_pl L g) := we_D (fun _ h => h) hD0
  have hKC : KC ad (fun q => q ∈ L) s s.heap := hKC0.narrow (fun _ h => Or.inl h)
  have hS : va_S (fun q => q ∈ L) s.heap s.heap [] := va_S.rf
  have hx := B.exec
  have hb := B.bytes
  have hr := B.returns
  have hts := atoms_spec (ws := wsX3_becomes) B.pre
  have hown : s.vm.findClass RX3 = some m.cls := findClass_of_methodNamed B.named
  have hlocks := B.notSynchronized
  have hrs : ∀ q : Nat, q ≠ om → q ≠ cj → g q = g q := fun q _ _ => rfl
  have hl := lv_entry ([.ref om, .int x1, .long x2]) (n := 7) (Nat.le_of_ble_eq_true rfl)
  rw [lg_entry_eq]
  generalize (lg_sl ([.ref om, .int x1, .long x2]) ++ List.replicate (7 - (lg_sl ([.ref om, .int x1, .long x2])).length) Slot.unset).toArray = ls at hl ⊢
  have hl : lv_has ls 7 [(0, .ref om), (1, .int x1), (2, .long x2)] := hl
  refine lv_aload_n hx hb dX3_becomes_0 rfl (lv_at hl 0 rfl) ?_
  refine pg_get hx hb hts hin_X3_X3_becomes hown hK hP hL_om hg_om rfl 0 (by decide) (hts (.fieldLink RX3 7 "NeedleBoardModel" "isFine" "[Z") (by decide +kernel)) rfl dX3_becomes_1 ?_
  refine lv_iload_n hx hb dX3_becomes_4 rfl (lv_at hl 1 rfl) ?_
  refine pg_zald hx hb hK hP 1 hL_fz hg_fz htZ hn dX3_becomes_5 ?_
  refine lv_istore (lv' := [(4, .int (ff x1.toNatClampNeg)), (0, .ref om), (1, .int x1), (2, .long x2)]) hx hb dX3_becomes_6 hl (by decide) rfl (fun ls hl => ?_)
  refine lv_aload_n hx hb dX3_becomes_8 rfl (lv_at hl 1 rfl) ?_
  refine lv_iload_n hx hb dX3_becomes_9 rfl (lv_at hl 2 rfl) ?_
  refine lv_lload_n hx hb dX3_becomes_10 rfl (lv_at hl 3 rfl) ?_
  refine rc_V (b := om) (r := .long (fX3_within kn kc kr kt kw ff cv x1 x2)) (As := [.int x1, .long x2]) (rest := []) ⟨hx, hb, hml, hown, hts⟩ (c_X3_within l D tys ad L g  om fz cj kn kc kr kt kw ff cv x1 x2 hL_om hL_fz hL_cj hg_om hg_fz hg_cj htJ htZ hn) (cwV 2 hts gX3_becomes_X3_within rfl rfl rfl hd_X3_within ⟨Nat.le_of_ble_eq_true rfl, Nat.le_of_ble_eq_true rfl⟩) (pg_recv hK hP hL_om hg_om rfl) (fun U hU hvm => WM hP hK hD hKC0 hTC hS hU hvm) hXN rfl hl.1 rfl (lv_room (Nat.le_of_ble_eq_true rfl)) dX3_becomes_11 ⟨Nat.le_of_ble_eq_true rfl, Nat.le_of_ble_eq_true rfl⟩ ?_
  refine lv_lstore (lv' := [(5, .long (fX3_within kn kc kr kt kw ff cv x1 x2)), (4, .int (ff x1.toNatClampNeg)), (0, .ref om), (1, .int x1), (2, .long x2)]) hx hb dX3_becomes_14 hl (by decide) rfl (fun ls hl => ?_)
  refine lv_aload_n hx hb dX3_becomes_16 rfl (lv_at hl 2 rfl) ?_
  refine lv_iload_n hx hb dX3_becomes_17 rfl (lv_at hl 3 rfl) ?_
  refine lv_iconst (v := 2) hx hb dX3_becomes_18 (by decide) ?_
  refine lv_lload hx hb dX3_becomes_19 (lv_at hl 0 rfl) ?_
  refine mc_V (b := om) (As := [.int x1, .int (2 : Int32), .long (fX3_within kn kc kr kt kw ff cv x1 x2)]) (rest := []) ⟨hx, hb, hml, hown, hts⟩ (c_X3_set l D tys ad L g  om fz cj kn kc kr kt kw ff cv x1 (2 : Int32) (fX3_within kn kc kr kt kw ff cv x1 x2) hL_om hL_fz hL_cj hg_om hg_fz hg_cj ne_om_cj ne_fz_cj htJ htZ (ix_in hn (by unfold vp_in; decide))) (cwV 3 hts gX3_becomes_X3_set rfl rfl rfl hd_X3_set ⟨Nat.le_of_ble_eq_true rfl, Nat.le_of_ble_eq_true rfl⟩) (pg_recv hK hP hL_om hg_om rfl) (fun U hU hvm => WM hP hK hD hKC0 hTC hS hU hvm) hXN hS (fun _ h => h) rfl hl.1 rfl (lv_room (Nat.le_of_ble_eq_true rfl)) dX3_becomes_21 ⟨Nat.le_of_ble_eq_true rfl, Nat.le_of_ble_eq_true rfl⟩ (fun g1 H locs hp9 hP hD hS => ?_)
  refine W.eq (g2 := F0 m 24 ls []) rfl ?_
  obtain ⟨hn9_cj, hr9⟩ := hp9
  have hg_om : g1 om = .inr (3, [.ref fz, .ref cj, .int kn, .int kc, .int kr, .int kt, .long kw]) := (hr9 om ne_om_cj).trans hg_om
  have hg_fz : g1 fz = .inl (cyZ, 8, .inl ff) := (hr9 fz ne_fz_cj).trans hg_fz
  have hg_cj : g1 cj = .inl (cyJ, 56, .inr (.inl (fX3_set kn kc kr kt kw ff cv x1 (2 : Int32) (fX3_within kn kc kr kt kw ff cv x1 x2)))) := hn9_cj
  have hrs : ∀ q : Nat, q ≠ om → q ≠ cj → g1 q = g q := fun q h_om h_cj => (hr9 q h_cj).trans (hrs q h_om h_cj)
  refine lv_iload hx hb dX3_becomes_24 (lv_at hl 1 rfl) ?_
  refine lv_lload hx hb dX3_becomes_26 (lv_at hl 0 rfl) ?_
  refine pc_0 (As := [.int (ff x1.toNatClampNeg), .long (fX3_within kn kc kr kt kw ff cv x1 x2)]) (rest := []) (r := .long (fX3_rank (ff x1.toNatClampNeg) (fX3_within kn kc kr kt kw ff cv x1 x2))) ⟨hx, hb, hml, hown, hts⟩ (c_X3_rank l (ff x1.toNatClampNeg) (fX3_within kn kc kr kt kw ff cv x1 x2)) (va_cwS 2 hts gX3_becomes_X3_rank rfl rfl rfl hd_X3_rank ⟨Nat.le_of_ble_eq_true rfl, Nat.le_of_ble_eq_true rfl⟩) rfl hl.1 rfl (lv_room (Nat.le_of_ble_eq_true rfl)) dX3_becomes_28 ⟨Nat.le_of_ble_eq_true rfl, Nat.le_of_ble_eq_true rfl⟩ ?_
  refine lv_iload hx hb dX3_becomes_31 (lv_at hl 1 rfl) ?_
  refine lv_aload_n hx hb dX3_becomes_33 rfl (lv_at hl 2 rfl) ?_
  refine lv_iload_n hx hb dX3_becomes_34 rfl (lv_at hl 3 rfl) ?_
  refine lv_iconst (v := 4) hx hb dX3_becomes_35 (by decide) ?_
  refine rc_V (b := om) (r := .long (fX3_get kn kc kr kt kw ff (fX3_set kn kc kr kt kw ff cv x1 (2 : Int32) (fX3_within kn kc kr kt kw ff cv x1 x2)) x1 (4 : Int32))) (As := [.int x1, .int (4 : Int32)]) (rest := [.int (ff x1.toNatClampNeg), .long (fX3_rank (ff x1.toNatClampNeg) (fX3_within kn kc kr kt kw ff cv x1 x2))]) ⟨hx, hb, hml, hown, hts⟩ (c_X3_get l D tys ad L g1  om fz cj kn kc kr kt kw ff (fX3_set kn kc kr kt kw ff cv x1 (2 : Int32) (fX3_within kn kc kr kt kw ff cv x1 x2)) x1 (4 : Int32) hL_om hL_fz hL_cj hg_om hg_fz hg_cj htJ htZ (ix_in hn (by unfold vp_in; decide))) (cwV 2 hts gX3_becomes_X3_get rfl rfl rfl hd_X3_get ⟨Nat.le_of_ble_eq_true rfl, Nat.le_of_ble_eq_true rfl⟩) (pg_recv hK hP hL_om hg_om rfl) (fun U hU hvm => WM hP hK hD hKC0 hTC hS hU hvm) hXN rfl hl.1 rfl (lv_room (Nat.le_of_ble_eq_true rfl)) dX3_becomes_36 ⟨Nat.le_of_ble_eq_true rfl, Nat.le_of_ble_eq_true rfl⟩ ?_
  refine pc_0 (As := [.int (ff x1.toNatClampNeg), .long (fX3_get kn kc kr kt kw ff (fX3_set kn kc kr kt kw ff cv x1 (2 : Int32) (fX3_within kn kc kr kt kw ff cv x1 x2)) x1 (4 : Int32))]) (rest := [.long (fX3_rank (ff x1.toNatClampNeg) (fX3_within kn kc kr kt kw ff cv x1 x2))]) (r := .long (fX3_rank (ff x1.toNatClampNeg) (fX3_get kn kc kr kt kw ff (fX3_set kn kc kr kt kw ff cv x1 (2 : Int32) (fX3_within kn kc kr kt kw ff cv x1 x2)) x1 (4 : Int32)))) ⟨hx, hb, hml, hown, hts⟩ (c_X3_rank l (ff x1.toNatClampNeg) (fX3_get kn kc kr kt kw ff (fX3_set kn kc kr kt kw ff cv x1 (2 : Int32) (fX3_within kn kc kr kt kw ff cv x1 x2)) x1 (4 : Int32))) (va_cwS 2 hts gX3_becomes_X3_rank rfl rfl rfl hd_X3_rank ⟨Nat.le_of_ble_eq_true rfl, Nat.le_of_ble_eq_true rfl⟩) rfl hl.1 rfl (lv_room (Nat.le_of_ble_eq_true rfl)) dX3_becomes_39 ⟨Nat.le_of_ble_eq_true rfl, Nat.le_of_ble_eq_true rfl⟩ ?_
  refine pl_le (tgt := 54) hx hb dX3_becomes_42 dX3_becomes_43 (by decide) (fun c_1 => ?_) (fun c_1 => ?_)
  · refine lv_iload hx hb dX3_becomes_54 (lv_at hl 1 rfl) ?_
    refine lv_lload hx hb dX3_becomes_56 (lv_at hl 0 rfl) ?_
    refine pc_0 (As := [.int (ff x1.toNatClampNeg), .long (fX3_within kn kc kr kt kw ff cv x1 x2)]) (rest := []) (r := .long (fX3_rank (ff x1.toNatClampNeg) (fX3_within kn kc kr kt kw ff cv x1 x2))) ⟨hx, hb, hml, hown, hts⟩ (c_X3_rank l (ff x1.toNatClampNeg) (fX3_within kn kc kr kt kw ff cv x1 x2)) (va_cwS 2 hts gX3_becomes_X3_rank rfl rfl rfl hd_X3_rank ⟨Nat.le_of_ble_eq_true rfl, Nat.le_of_ble_eq_true rfl⟩) rfl hl.1 rfl (lv_room (Nat.le_of_ble_eq_true rfl)) dX3_becomes_58 ⟨Nat.le_of_ble_eq_true rfl, Nat.le_of_ble_eq_true rfl⟩ ?_
    refine lv_iload hx hb dX3_becomes_61 (lv_at hl 1 rfl) ?_
    refine lv_aload_n hx hb dX3_becomes_63 rfl (lv_at hl 2 rfl) ?_
    refine lv_iload_n hx hb dX3_becomes_64 rfl (lv_at hl 3 rfl) ?_
    refine lv_iconst (v := 5) hx hb dX3_becomes_65 (by decide) ?_
    refine rc_V (b := om) (r := .long (fX3_get kn kc kr kt kw ff (fX3_set kn kc kr kt kw ff cv x1 (2 : Int32) (fX3_within kn kc kr kt kw ff cv x1 x2)) x1 (5 : Int32))) (As := [.int x1, .int (5 : Int32)]) (rest := [.int (ff x1.toNatClampNeg), .long (fX3_rank (ff x1.toNatClampNeg) (fX3_within kn kc kr kt kw ff cv x1 x2))]) ⟨hx, hb, hml, hown, hts⟩ (c_X3_get l D tys ad L g1  om fz cj kn kc kr kt kw ff (fX3_set kn kc kr kt kw ff cv x1 (2 : Int32) (fX3_within kn kc kr kt kw ff cv x1 x2)) x1 (5 : Int32) hL_om hL_fz hL_cj hg_om hg_fz hg_cj htJ htZ (ix_in hn (by unfold vp_in; decide))) (cwV 2 hts gX3_becomes_X3_get rfl rfl rfl hd_X3_get ⟨Nat.le_of_ble_eq_true rfl, Nat.le_of_ble_eq_true rfl⟩) (pg_recv hK hP hL_om hg_om rfl) (fun U hU hvm => WM hP hK hD hKC0 hTC hS hU hvm) hXN rfl hl.1 rfl (lv_room (Nat.le_of_ble_eq_true rfl)) dX3_becomes_66 ⟨Nat.le_of_ble_eq_true rfl, Nat.le_of_ble_eq_true rfl⟩ ?_
    refine pc_0 (As := [.int (ff x1.toNatClampNeg), .long (fX3_get kn kc kr kt kw ff (fX3_set kn kc kr kt kw ff cv x1 (2 : Int32) (fX3_within kn kc kr kt kw ff cv x1 x2)) x1 (5 : Int32))]) (rest := [.long (fX3_rank (ff x1.toNatClampNeg) (fX3_within kn kc kr kt kw ff cv x1 x2))]) (r := .long (fX3_rank (ff x1.toNatClampNeg) (fX3_get kn kc kr kt kw ff (fX3_set kn kc kr kt kw ff cv x1 (2 : Int32) (fX3_within kn kc kr kt kw ff cv x1 x2)) x1 (5 : Int32)))) ⟨hx, hb, hml, hown, hts⟩ (c_X3_rank l (ff x1.toNatClampNeg) (fX3_get kn kc kr kt kw ff (fX3_set kn kc kr kt kw ff cv x1 (2 : Int32) (fX3_within kn kc kr kt kw ff cv x1 x2)) x1 (5 : Int32))) (va_cwS 2 hts gX3_becomes_X3_rank rfl rfl rfl hd_X3_rank ⟨Nat.le_of_ble_eq_true rfl, Nat.le_of_ble_eq_true rfl⟩) rfl hl.1 rfl (lv_room (Nat.le_of_ble_eq_true rfl)) dX3_becomes_69 ⟨Nat.le_of_ble_eq_true rfl, Nat.le_of_ble_eq_true rfl⟩ ?_
    refine pl_ge (tgt := 84) hx hb dX3_becomes_72 dX3_becomes_73 (by decide) (fun c_2 => ?_) (fun c_2 => ?_)
    · refine lv_iload hx hb dX3_becomes_84 (lv_at hl 1 rfl) ?_
      refine lv_lload hx hb dX3_becomes_86 (lv_at hl 0 rfl) ?_
      refine pc_0 (As := [.int (ff x1.toNatClampNeg), .long (fX3_within kn kc kr kt kw ff cv x1 x2)]) (rest := []) (r := .long (fX3_sizeOf (ff x1.toNatClampNeg) (fX3_within kn kc kr kt kw ff cv x1 x2))) ⟨hx, hb, hml, hown, hts⟩ (c_X3_sizeOf l (ff x1.toNatClampNeg) (fX3_within kn kc kr kt kw ff cv x1 x2)) (va_cwS 2 hts gX3_becomes_X3_sizeOf rfl rfl rfl hd_X3_sizeOf ⟨Nat.le_of_ble_eq_true rfl, Nat.le_of_ble_eq_true rfl⟩) rfl hl.1 rfl (lv_room (Nat.le_of_ble_eq_true rfl)) dX3_becomes_88 ⟨Nat.le_of_ble_eq_true rfl, Nat.le_of_ble_eq_true rfl⟩ ?_
      refine lv_aload_n hx hb dX3_becomes_91 rfl (lv_at hl 2 rfl) ?_
      refine lv_iload_n hx hb dX3_becomes_92 rfl (lv_at hl 3 rfl) ?_
      refine lv_bipush (v := (6)) hx hb dX3_becomes_93 (by decide) ?_
      refine rc_V (b := om) (r := .long (fX3_get kn kc kr kt kw ff (fX3_set kn kc kr kt kw ff cv x1 (2 : Int32) (fX3_within kn kc kr kt kw ff cv x1 x2)) x1 (6 : Int32))) (As := [.int x1, .int (6 : Int32)]) (rest := [.long (fX3_sizeOf (ff x1.toNatClampNeg) (fX3_within kn kc kr kt kw ff cv x1 x2))]) ⟨hx, hb, hml, hown, hts⟩ (c_X3_get l D tys ad L g1  om fz cj kn kc kr kt kw ff (fX3_set kn kc kr kt kw ff cv x1 (2 : Int32) (fX3_within kn kc kr kt kw ff cv x1 x2)) x1 (6 : Int32) hL_om hL_fz hL_cj hg_om hg_fz hg_cj htJ htZ (ix_in hn (by unfold vp_in; decide))) (cwV 2 hts gX3_becomes_X3_get rfl rfl rfl hd_X3_get ⟨Nat.le_of_ble_eq_true rfl, Nat.le_of_ble_eq_true rfl⟩) (pg_recv hK hP hL_om hg_om rfl) (fun U hU hvm => WM hP hK hD hKC0 hTC hS hU hvm) hXN rfl hl.1 rfl (lv_room (Nat.le_of_ble_eq_true rfl)) dX3_becomes_95 ⟨Nat.le_of_ble_eq_true rfl, Nat.le_of_ble_eq_true rfl⟩ ?_
      refine pl_le (tgt := 116) hx hb dX3_becomes_98 dX3_becomes_99 (by decide) (fun c_3 => ?_) (fun c_3 => ?_)
      · refine lv_aload_n hx hb dX3_becomes_116 rfl (lv_at hl 2 rfl) ?_
        refine lv_dup hx hb dX3_becomes_117 rfl ?_
        refine pg_get hx hb hts hin_X3_X3_becomes hown hK hP hL_om hg_om rfl 3 (by decide) (hts (.fieldLink RX3 92 "NeedleBoardModel" "calls" "I") (by decide +kernel)) rfl dX3_becomes_118 ?_
        refine lv_iconst (v := 1) hx hb dX3_becomes_121 (by decide) ?_
        refine lv_iadd hx hb dX3_becomes_122 ?_
        refine pg_put (ty := .int) hx hb hts hin_X3_X3_becomes tyX3 tyX3_ok nmX3 hown hK hP hD hS hL_om hg_om rfl 3 (by decide) (hts (.fieldLink RX3 92 "NeedleBoardModel" "calls" "I") (by decide +kernel)) rfl (by decide +kernel) rfl rfl (Nat.le_of_ble_eq_true rfl) dX3_becomes_123 (fun H locs hP hD hS => ?_)
        obtain ⟨g2, eg2⟩ : ∃ z : Nat → va_E, z = va_up g1 om (.inr (3, [.ref fz, .ref cj, .int kn, .int (kc + (1 : Int32)), .int kr, .int kt, .long kw])) := ⟨_, rfl⟩
        have hP : va_P D vwCl (va_pl L g2) H := by rw [eg2]; exact hP
        have hD : va_D (fun q => q ∈ L) (va_pl L g2) := by rw [eg2]; exact hD
        have hg_om : g2 om = .inr (3, [.ref fz, .ref cj, .int kn, .int (kc + (1 : Int32)), .int kr, .int kt, .long kw]) := by rw [eg2]; exact va_up_self _ _ _
        have hg_fz : g2 fz = .inl (cyZ, 8, .inl ff) := (congrFun eg2 fz).trans ((va_up_ne _ _ ne_fz_om).trans hg_fz)
        have hg_cj : g2 cj = .inl (cyJ, 56, .inr (.inl (fX3_set kn kc kr kt kw ff cv x1 (2 : Int32) (fX3_within kn kc kr kt kw ff cv x1 x2)))) := (congrFun eg2 cj).trans ((va_up_ne _ _ ne_cj_om).trans hg_cj)
        have hrs : ∀ q : Nat, q ≠ om → q ≠ cj → g2 q = g q := fun q h_om h_cj => (congrFun eg2 q).trans ((va_up_ne _ _ h_om).trans (hrs q h_om h_cj))
        refine lv_lload hx hb dX3_becomes_126 (lv_at hl 0 rfl) ?_
        have hF : fX3_becomes kn kc kr kt kw ff cv x1 x2 = (fX3_within kn kc kr kt kw ff cv x1 x2, fX3_set kn kc kr kt kw ff cv x1 (2 : Int32) (fX3_within kn kc kr kt kw ff cv x1 x2), kc + (1 : Int32)) := (by unfold fX3_becomes; rw [if_pos c_1, if_pos c_2, if_pos c_3])
        have hF0 : (fX3_becomes kn kc kr kt kw ff cv x1 x2).1 = fX3_within kn kc kr kt kw ff cv x1 x2 := by rw [hF]
        have hF1 : (fX3_becomes kn kc kr kt kw ff cv x1 x2).2.1 = fX3_set kn kc kr kt kw ff cv x1 (2 : Int32) (fX3_within kn kc kr kt kw ff cv x1 x2) := by rw [hF]
        have hF2 : (fX3_becomes kn kc kr kt kw ff cv x1 x2).2.2 = kc + (1 : Int32) := by rw [hF]
        exact W.lret hx hb hr (fun t ht hW => ⟨congrArg (fun z => Outcome.returned (some (Value.long z))) hF0.symm, ⟨g2, WM hP hK hD hKC0 hTC hS ht hW.alike, by rw [hF1, hF2]; exact ⟨hg_om, hg_cj, hrs⟩⟩, hS.F ht⟩) (fun q h => hS.2.2 q h) dX3_becomes_128
      · refine lv_aload_n hx hb dX3_becomes_102 rfl (lv_at hl 2 rfl) ?_
        refine lv_iload_n hx hb dX3_becomes_103 rfl (lv_at hl 3 rfl) ?_
        refine lv_bipush (v := (6)) hx hb dX3_becomes_104 (by decide) ?_
        refine lv_iload hx hb dX3_becomes_106 (lv_at hl 1 rfl) ?_
        refine lv_lload hx hb dX3_becomes_108 (lv_at hl 0 rfl) ?_
        refine pc_0 (As := [.int (ff x1.toNatClampNeg), .long (fX3_within kn kc kr kt kw ff cv x1 x2)]) (rest := [.int (6 : Int32), .int x1, .ref om]) (r := .long (fX3_sizeOf (ff x1.toNatClampNeg) (fX3_within kn kc kr kt kw ff cv x1 x2))) ⟨hx, hb, hml, hown, hts⟩ (c_X3_sizeOf l (ff x1.toNatClampNeg) (fX3_within kn kc kr kt kw ff cv x1 x2)) (va_cwS 2 hts gX3_becomes_X3_sizeOf rfl rfl rfl hd_X3_sizeOf ⟨Nat.le_of_ble_eq_true rfl, Nat.le_of_ble_eq_true rfl⟩) rfl hl.1 rfl (lv_room (Nat.le_of_ble_eq_true rfl)) dX3_becomes_110 ⟨Nat.le_of_ble_eq_true rfl, Nat.le_of_ble_eq_true rfl⟩ ?_
        refine mc_V (b := om) (As := [.int x1, .int (6 : Int32), .long (fX3_sizeOf (ff x1.toNatClampNeg) (fX3_within kn kc kr kt kw ff cv x1 x2))]) (rest := []) ⟨hx, hb, hml, hown, hts⟩ (c_X3_set l D tys ad L g1  om fz cj kn kc kr kt kw ff (fX3_set kn kc kr kt kw ff cv x1 (2 : Int32) (fX3_within kn kc kr kt kw ff cv x1 x2)) x1 (6 : Int32) (fX3_sizeOf (ff x1.toNatClampNeg) (fX3_within kn kc kr kt kw ff cv x1 x2)) hL_om hL_fz hL_cj hg_om hg_fz hg_cj ne_om_cj ne_fz_cj htJ htZ (ix_in hn (by unfold vp_in; decide))) (cwV 3 hts gX3_becomes_X3_set rfl rfl rfl hd_X3_set ⟨Nat.le_of_ble_eq_true rfl, Nat.le_of_ble_eq_true rfl⟩) (pg_recv hK hP hL_om hg_om rfl) (fun U hU hvm => WM hP hK hD hKC0 hTC hS hU hvm) hXN hS (fun _ h => h) rfl hl.1 rfl (lv_room (Nat.le_of_ble_eq_true rfl)) dX3_becomes_113 ⟨Nat.le_of_ble_eq_true rfl, Nat.le_of_ble_eq_true rfl⟩ (fun g2 H locs hp9 hP hD hS => ?_)
        refine W.eq (g2 := F0 m 116 ls []) rfl ?_
        obtain ⟨hn9_cj, hr9⟩ := hp9
        have hg_om : g2 om = .inr (3, [.ref fz, .ref cj, .int kn, .int kc, .int kr, .int kt, .long kw]) := (hr9 om ne_om_cj).trans hg_om
        have hg_fz : g2 fz = .inl (cyZ, 8, .inl ff) := (hr9 fz ne_fz_cj).trans hg_fz
        have hg_cj : g2 cj = .inl (cyJ, 56, .inr (.inl (fX3_set kn kc kr kt kw ff (fX3_set kn kc kr kt kw ff cv x1 (2 : Int32) (fX3_within kn kc kr kt kw ff cv x1 x2)) x1 (6 : Int32) (fX3_sizeOf (ff x1.toNatClampNeg) (fX3_within kn kc kr kt kw ff cv x1 x2))))) := hn9_cj
        have hrs : ∀ q : Nat, q ≠ om → q ≠ cj → g2 q = g q := fun q h_om h_cj => (hr9 q h_cj).trans (hrs q h_om h_cj)
        refine lv_aload_n hx hb dX3_becomes_116 rfl (lv_at hl 2 rfl) ?_
        refine lv_dup hx hb dX3_becomes_117 rfl ?_
        refine pg_get hx hb hts hin_X3_X3_becomes hown hK hP hL_om hg_om rfl 3 (by decide) (hts (.fieldLink RX3 92 "NeedleBoardModel" "calls" "I") (by decide +kernel)) rfl dX3_becomes_118 ?_
        refine lv_iconst (v := 1) hx hb dX3_becomes_121 (by decide) ?_
        refine lv_iadd hx hb dX3_becomes_122 ?_
        refine pg_put (ty := .int) hx hb hts hin_X3_X3_becomes tyX3 tyX3_ok nmX3 hown hK hP hD hS hL_om hg_om rfl 3 (by decide) (hts (.fieldLink RX3 92 "NeedleBoardModel" "calls" "I") (by decide +kernel)) rfl (by decide +kernel) rfl rfl (Nat.le_of_ble_eq_true rfl) dX3_becomes_123 (fun H locs hP hD hS => ?_)
        obtain ⟨g3, eg3⟩ : ∃ z : Nat → va_E, z = va_up g2 om (.inr (3, [.ref fz, .ref cj, .int kn, .int (kc + (1 : Int32)), .int kr, .int kt, .long kw])) := ⟨_, rfl⟩
        have hP : va_P D vwCl (va_pl L g3) H := by rw [eg3]; exact hP
        have hD : va_D (fun q => q ∈ L) (va_pl L g3) := by rw [eg3]; exact hD
        have hg_om : g3 om = .inr (3, [.ref fz, .ref cj, .int kn, .int (kc + (1 : Int32)), .int kr, .int kt, .long kw]) := by rw [eg3]; exact va_up_self _ _ _
        have hg_fz : g3 fz = .inl (cyZ, 8, .inl ff) := (congrFun eg3 fz).trans ((va_up_ne _ _ ne_fz_om).trans hg_fz)
        have hg_cj : g3 cj = .inl (cyJ, 56, .inr (.inl (fX3_set kn kc kr kt kw ff (fX3_set kn kc kr kt kw ff cv x1 (2 : Int32) (fX3_within kn kc kr kt kw ff cv x1 x2)) x1 (6 : Int32) (fX3_sizeOf (ff x1.toNatClampNeg) (fX3_within kn kc kr kt kw ff cv x1 x2))))) := (congrFun eg3 cj).trans ((va_up_ne _ _ ne_cj_om).trans hg_cj)
        have hrs : ∀ q : Nat, q ≠ om → q ≠ cj → g3 q = g q := fun q h_om h_cj => (congrFun eg3 q).trans ((va_up_ne _ _ h_om).trans (hrs q h_om h_cj))
        refine lv_lload hx hb dX3_becomes_126 (lv_at hl 0 rfl) ?_
        have hF : fX3_becomes kn kc kr kt kw ff cv x1 x2 = (fX3_within kn kc kr kt kw ff cv x1 x2, fX3_set kn kc kr kt kw ff (fX3_set kn kc kr kt kw ff cv x1 (2 : Int32) (fX3_within kn kc kr kt kw ff cv x1 x2)) x1 (6 : Int32) (fX3_sizeOf (ff x1.toNatClampNeg) (fX3_within kn kc kr kt kw ff cv x1 x2)), kc + (1 : Int32)) := (by unfold fX3_becomes; rw [if_pos c_1, if_pos c_2, if_neg c_3])
        have hF0 : (fX3_becomes kn kc kr kt kw ff cv x1 x2).1 = fX3_within kn kc kr kt kw ff cv x1 x2 := by rw [hF]
        have hF1 : (fX3_becomes kn kc kr kt kw ff cv x1 x2).2.1 = fX3_set kn kc kr kt kw ff (fX3_set kn kc kr kt kw ff cv x1 (2 : Int32) (fX3_within kn kc kr kt kw ff cv x1 x2)) x1 (6 : Int32) (fX3_sizeOf (ff x1.toNatClampNeg) (fX3_within kn kc kr kt kw ff cv x1 x2)) := by rw [hF]
        have hF2 : (fX3_becomes kn kc kr kt kw ff cv x1 x2).2.2 = kc + (1 : Int32) := by rw [hF]
        exact W.lret hx hb hr (fun t ht hW => ⟨congrArg (fun z => Outcome.returned (some (Value.long z))) hF0.symm, ⟨g3, WM hP hK hD hKC0 hTC hS ht hW.alike, by rw [hF1, hF2]; exact ⟨hg_om, hg_cj, hrs⟩⟩, hS.F ht⟩) (fun q h => hS.2.2 q h) dX3_becomes_128
    · refine lv_aload_n hx hb dX3_becomes_76 rfl (lv_at hl 2 rfl) ?_
      refine lv_iload_n hx hb dX3_becomes_77 rfl (lv_at hl 3 rfl) ?_
      refine lv_iconst (v := 5) hx hb dX3_becomes_78 (by decide) ?_
      refine lv_lload hx hb dX3_becomes_79 (lv_at hl 0 rfl) ?_
      refine mc_V (b := om) (As := [.int x1, .int (5 : Int32), .long (fX3_within kn kc kr kt kw ff cv x1 x2)]) (rest := []) ⟨hx, hb, hml, hown, hts⟩ (c_X3_set l D tys ad L g1  om fz cj kn kc kr kt kw ff (fX3_set kn kc kr kt kw ff cv x1 (2 : Int32) (fX3_within kn kc kr kt kw ff cv x1 x2)) x1 (5 : Int32) (fX3_within kn kc kr kt kw ff cv x1 x2) hL_om hL_fz hL_cj hg_om hg_fz hg_cj ne_om_cj ne_fz_cj htJ htZ (ix_in hn (by unfold vp_in; decide))) (cwV 3 hts gX3_becomes_X3_set rfl rfl rfl hd_X3_set ⟨Nat.le_of_ble_eq_true rfl, Nat.le_of_ble_eq_true rfl⟩) (pg_recv hK hP hL_om hg_om rfl) (fun U hU hvm => WM hP hK hD hKC0 hTC hS hU hvm) hXN hS (fun _ h => h) rfl hl.1 rfl (lv_room (Nat.le_of_ble_eq_true rfl)) dX3_becomes_81 ⟨Nat.le_of_ble_eq_true rfl, Nat.le_of_ble_eq_true rfl⟩ (fun g2 H locs hp9 hP hD hS => ?_)
      refine W.eq (g2 := F0 m 84 ls []) rfl ?_
      obtain ⟨hn9_cj, hr9⟩ := hp9
      have hg_om : g2 om = .inr (3, [.ref fz, .ref cj, .int kn, .int kc, .int kr, .int kt, .long kw]) := (hr9 om ne_om_cj).trans hg_om
      have hg_fz : g2 fz = .inl (cyZ, 8, .inl ff) := (hr9 fz ne_fz_cj).trans hg_fz
      have hg_cj : g2 cj = .inl (cyJ, 56, .inr (.inl (fX3_set kn kc kr kt kw ff (fX3_set kn kc kr kt kw ff cv x1 (2 : Int32) (fX3_within kn kc kr kt kw ff cv x1 x2)) x1 (5 : Int32) (fX3_within kn kc kr kt kw ff cv x1 x2)))) := hn9_cj
      have hrs : ∀ q : Nat, q ≠ om → q ≠ cj → g2 q = g q := fun q h_om h_cj => (hr9 q h_cj).trans (hrs q h_om h_cj)
      refine lv_iload hx hb dX3_becomes_84 (lv_at hl 1 rfl) ?_
      refine lv_lload hx hb dX3_becomes_86 (lv_at hl 0 rfl) ?_
      refine pc_0 (As := [.int (ff x1.toNatClampNeg), .long (fX3_within kn kc kr kt kw ff cv x1 x2)]) (rest := []) (r := .long (fX3_sizeOf (ff x1.toNatClampNeg) (fX3_within kn kc kr kt kw ff cv x1 x2))) ⟨hx, hb, hml, hown, hts⟩ (c_X3_sizeOf l (ff x1.toNatClampNeg) (fX3_within kn kc kr kt kw ff cv x1 x2)) (va_cwS 2 hts gX3_becomes_X3_sizeOf rfl rfl rfl hd_X3_sizeOf ⟨Nat.le_of_ble_eq_true rfl, Nat.le_of_ble_eq_true rfl⟩) rfl hl.1 rfl (lv_room (Nat.le_of_ble_eq_true rfl)) dX3_becomes_88 ⟨Nat.le_of_ble_eq_true rfl, Nat.le_of_ble_eq_true rfl⟩ ?_
      refine lv_aload_n hx hb dX3_becomes_91 rfl (lv_at hl 2 rfl) ?_
      refine lv_iload_n hx hb dX3_becomes_92 rfl (lv_at hl 3 rfl) ?_
      refine lv_bipush (v := (6)) hx hb dX3_becomes_93 (by decide) ?_
      refine rc_V (b := om) (r := .long (fX3_get kn kc kr kt kw ff (fX3_set kn kc kr kt kw ff (fX3_set kn kc kr kt kw ff cv x1 (2 : Int32) (fX3_within kn kc kr kt kw ff cv x1 x2)) x1 (5 : Int32) (fX3_within kn kc kr kt kw ff cv x1 x2)) x1 (6 : Int32))) (As := [.int x1, .int (6 : Int32)]) (rest := [.long (fX3_sizeOf (ff x1.toNatClampNeg) (fX3_within kn kc kr kt kw ff cv x1 x2))]) ⟨hx, hb, hml, hown, hts⟩ (c_X3_get l D tys ad L g2  om fz cj kn kc kr kt kw ff (fX3_set kn kc kr kt kw ff (fX3_set kn kc kr kt kw ff cv x1 (2 : Int32) (fX3_within kn kc kr kt kw ff cv x1 x2)) x1 (5 : Int32) (fX3_within kn kc kr kt kw ff cv x1 x2)) x1 (6 : Int32) hL_om hL_fz hL_cj hg_om hg_fz hg_cj htJ htZ (ix_in hn (by unfold vp_in; decide))) (cwV 2 hts gX3_becomes_X3_get rfl rfl rfl hd_X3_get ⟨Nat.le_of_ble_eq_true rfl, Nat.le_of_ble_eq_true rfl⟩) (pg_recv hK hP hL_om hg_om rfl) (fun U hU hvm => WM hP hK hD hKC0 hTC hS hU hvm) hXN rfl hl.1 rfl (lv_room (Nat.le_of_ble_eq_true rfl)) dX3_becomes_95 ⟨Nat.le_of_ble_eq_true rfl, Nat.le_of_ble_eq_true rfl⟩ ?_
      refine pl_le (tgt := 116) hx hb dX3_becomes_98 dX3_becomes_99 (by decide) (fun c_4 => ?_) (fun c_4 => ?_)
      · refine lv_aload_n hx hb dX3_becomes_116 rfl (lv_at hl 2 rfl) ?_
        refine lv_dup hx hb dX3_becomes_117 rfl ?_
        refine pg_get hx hb hts hin_X3_X3_becomes hown hK hP hL_om hg_om rfl 3 (by decide) (hts (.fieldLink RX3 92 "NeedleBoardModel" "calls" "I") (by decide +kernel)) rfl dX3_becomes_118 ?_
        refine lv_iconst (v := 1) hx hb dX3_becomes_121 (by decide) ?_
        refine lv_iadd hx hb dX3_becomes_122 ?_
        refine pg_put (ty := .int) hx hb hts hin_X3_X3_becomes tyX3 tyX3_ok nmX3 hown hK hP hD hS hL_om hg_om rfl 3 (by decide) (hts (.fieldLink RX3 92 "NeedleBoardModel" "calls" "I") (by decide +kernel)) rfl (by decide +kernel) rfl rfl (Nat.le_of_ble_eq_true rfl) dX3_becomes_123 (fun H locs hP hD hS => ?_)
        obtain ⟨g3, eg3⟩ : ∃ z : Nat → va_E, z = va_up g2 om (.inr (3, [.ref fz, .ref cj, .int kn, .int (kc + (1 : Int32)), .int kr, .int kt, .long kw])) := ⟨_, rfl⟩
        have hP : va_P D vwCl (va_pl L g3) H := by rw [eg3]; exact hP
        have hD : va_D (fun q => q ∈ L) (va_pl L g3) := by rw [eg3]; exact hD
        have hg_om : g3 om = .inr (3, [.ref fz, .ref cj, .int kn, .int (kc + (1 : Int32)), .int kr, .int kt, .long kw]) := by rw [eg3]; exact va_up_self _ _ _
        have hg_fz : g3 fz = .inl (cyZ, 8, .inl ff) := (congrFun eg3 fz).trans ((va_up_ne _ _ ne_fz_om).trans hg_fz)
        have hg_cj : g3 cj = .inl (cyJ, 56, .inr (.inl (fX3_set kn kc kr kt kw ff (fX3_set kn kc kr kt kw ff cv x1 (2 : Int32) (fX3_within kn kc kr kt kw ff cv x1 x2)) x1 (5 : Int32) (fX3_within kn kc kr kt kw ff cv x1 x2)))) := (congrFun eg3 cj).trans ((va_up_ne _ _ ne_cj_om).trans hg_cj)
        have hrs : ∀ q : Nat, q ≠ om → q ≠ cj → g3 q = g q := fun q h_om h_cj => (congrFun eg3 q).trans ((va_up_ne _ _ h_om).trans (hrs q h_om h_cj))
        refine lv_lload hx hb dX3_becomes_126 (lv_at hl 0 rfl) ?_
        have hF : fX3_becomes kn kc kr kt kw ff cv x1 x2 = (fX3_within kn kc kr kt kw ff cv x1 x2, fX3_set kn kc kr kt kw ff (fX3_set kn kc kr kt kw ff cv x1 (2 : Int32) (fX3_within kn kc kr kt kw ff cv x1 x2)) x1 (5 : Int32) (fX3_within kn kc kr kt kw ff cv x1 x2), kc + (1 : Int32)) := (by unfold fX3_becomes; rw [if_pos c_1, if_neg c_2, if_pos c_4])
        have hF0 : (fX3_becomes kn kc kr kt kw ff cv x1 x2).1 = fX3_within kn kc kr kt kw ff cv x1 x2 := by rw [hF]
        have hF1 : (fX3_becomes kn kc kr kt kw ff cv x1 x2).2.1 = fX3_set kn kc kr kt kw ff (fX3_set kn kc kr kt kw ff cv x1 (2 : Int32) (fX3_within kn kc kr kt kw ff cv x1 x2)) x1 (5 : Int32) (fX3_within kn kc kr kt kw ff cv x1 x2) := by rw [hF]
        have hF2 : (fX3_becomes kn kc kr kt kw ff cv x1 x2).2.2 = kc + (1 : Int32) := by rw [hF]
        exact W.lret hx hb hr (fun t ht hW => ⟨congrArg (fun z => Outcome.returned (some (Value.long z))) hF0.symm, ⟨g3, WM hP hK hD hKC0 hTC hS ht hW.alike, by rw [hF1, hF2]; exact ⟨hg_om, hg_cj, hrs⟩⟩, hS.F ht⟩) (fun q h => hS.2.2 q h) dX3_becomes_128
      · refine lv_aload_n hx hb dX3_becomes_102 rfl (lv_at hl 2 rfl) ?_
        refine lv_iload_n hx hb dX3_becomes_103 rfl (lv_at hl 3 rfl) ?_
        refine lv_bipush (v := (6)) hx hb dX3_becomes_104 (by decide) ?_
        refine lv_iload hx hb dX3_becomes_106 (lv_at hl 1 rfl) ?_
        refine lv_lload hx hb dX3_becomes_108 (lv_at hl 0 rfl) ?_
        refine pc_0 (As := [.int (ff x1.toNatClampNeg), .long (fX3_within kn kc kr kt kw ff cv x1 x2)]) (rest := [.int (6 : Int32), .int x1, .ref om]) (r := .long (fX3_sizeOf (ff x1.toNatClampNeg) (fX3_within kn kc kr kt kw ff cv x1 x2))) ⟨hx, hb, hml, hown, hts⟩ (c_X3_sizeOf l (ff x1.toNatClampNeg) (fX3_within kn kc kr kt kw ff cv x1 x2)) (va_cwS 2 hts gX3_becomes_X3_sizeOf rfl rfl rfl hd_X3_sizeOf ⟨Nat.le_of_ble_eq_true rfl, Nat.le_of_ble_eq_true rfl⟩) rfl hl.1 rfl (lv_room (Nat.le_of_ble_eq_true rfl)) dX3_becomes_110 ⟨Nat.le_of_ble_eq_true rfl, Nat.le_of_ble_eq_true rfl⟩ ?_
        refine mc_V (b := om) (As := [.int x1, .int (6 : Int32), .long (fX3_sizeOf (ff x1.toNatClampNeg) (fX3_within kn kc kr kt kw ff cv x1 x2))]) (rest := []) ⟨hx, hb, hml, hown, hts⟩ (c_X3_set l D tys ad L g2  om fz cj kn kc kr kt kw ff (fX3_set kn kc kr kt kw ff (fX3_set kn kc kr kt kw ff cv x1 (2 : Int32) (fX3_within kn kc kr kt kw ff cv x1 x2)) x1 (5 : Int32) (fX3_within kn kc kr kt kw ff cv x1 x2)) x1 (6 : Int32) (fX3_sizeOf (ff x1.toNatClampNeg) (fX3_within kn kc kr kt kw ff cv x1 x2)) hL_om hL_fz hL_cj hg_om hg_fz hg_cj ne_om_cj ne_fz_cj htJ htZ (ix_in hn (by unfold vp_in; decide))) (cwV 3 hts gX3_becomes_X3_set rfl rfl rfl hd_X3_set ⟨Nat.le_of_ble_eq_true rfl, Nat.le_of_ble_eq_true rfl⟩) (pg_recv hK hP hL_om hg_om rfl) (fun U hU hvm => WM hP hK hD hKC0 hTC hS hU hvm) hXN hS (fun _ h => h) rfl hl.1 rfl (lv_room (Nat.le_of_ble_eq_true rfl)) dX3_becomes_113 ⟨Nat.le_of_ble_eq_true rfl, Nat.le_of_ble_eq_true rfl⟩ (fun g3 H locs hp9 hP hD hS => ?_)
        refine W.eq (g2 := F0 m 116 ls []) rfl ?_
        obtain ⟨hn9_cj, hr9⟩ := hp9
        have hg_om : g3 om = .inr (3, [.ref fz, .ref cj, .int kn, .int kc, .int kr, .int kt, .long kw]) := (hr9 om ne_om_cj).trans hg_om
        have hg_fz : g3 fz = .inl (cyZ, 8, .inl ff) := (hr9 fz ne_fz_cj).trans hg_fz
        have hg_cj : g3 cj = .inl (cyJ, 56, .inr (.inl (fX3_set kn kc kr kt kw ff (fX3_set kn kc kr kt kw ff (fX3_set kn kc kr kt kw ff cv x1 (2 : Int32) (fX3_within kn kc kr kt kw ff cv x1 x2)) x1 (5 : Int32) (fX3_within kn kc kr kt kw ff cv x1 x2)) x1 (6 : Int32) (fX3_sizeOf (ff x1.toNatClampNeg) (fX3_within kn kc kr kt kw ff cv x1 x2))))) := hn9_cj
        have hrs : ∀ q : Nat, q ≠ om → q ≠ cj → g3 q = g q := fun q h_om h_cj => (hr9 q h_cj).trans (hrs q h_om h_cj)
        refine lv_aload_n hx hb dX3_becomes_116 rfl (lv_at hl 2 rfl) ?_
        refine lv_dup hx hb dX3_becomes_117 rfl ?_
        refine pg_get hx hb hts hin_X3_X3_becomes hown hK hP hL_om hg_om rfl 3 (by decide) (hts (.fieldLink RX3 92 "NeedleBoardModel" "calls" "I") (by decide +kernel)) rfl dX3_becomes_118 ?_
        refine lv_iconst (v := 1) hx hb dX3_becomes_121 (by decide) ?_
        refine lv_iadd hx hb dX3_becomes_122 ?_
        refine pg_put (ty := .int) hx hb hts hin_X3_X3_becomes tyX3 tyX3_ok nmX3 hown hK hP hD hS hL_om hg_om rfl 3 (by decide) (hts (.fieldLink RX3 92 "NeedleBoardModel" "calls" "I") (by decide +kernel)) rfl (by decide +kernel) rfl rfl (Nat.le_of_ble_eq_true rfl) dX3_becomes_123 (fun H locs hP hD hS => ?_)
        obtain ⟨g4, eg4⟩ : ∃ z : Nat → va_E, z = va_up g3 om (.inr (3, [.ref fz, .ref cj, .int kn, .int (kc + (1 : Int32)), .int kr, .int kt, .long kw])) := ⟨_, rfl⟩
        have hP : va_P D vwCl (va_pl L g4) H := by rw [eg4]; exact hP
        have hD : va_D (fun q => q ∈ L) (va_pl L g4) := by rw [eg4]; exact hD
        have hg_om : g4 om = .inr (3, [.ref fz, .ref cj, .int kn, .int (kc + (1 : Int32)), .int kr, .int kt, .long kw]) := by rw [eg4]; exact va_up_self _ _ _
        have hg_fz : g4 fz = .inl (cyZ, 8, .inl ff) := (congrFun eg4 fz).trans ((va_up_ne _ _ ne_fz_om).trans hg_fz)
        have hg_cj : g4 cj = .inl (cyJ, 56, .inr (.inl (fX3_set kn kc kr kt kw ff (fX3_set kn kc kr kt kw ff (fX3_set kn kc kr kt kw ff cv x1 (2 : Int32) (fX3_within kn kc kr kt kw ff cv x1 x2)) x1 (5 : Int32) (fX3_within kn kc kr kt kw ff cv x1 x2)) x1 (6 : Int32) (fX3_sizeOf (ff x1.toNatClampNeg) (fX3_within kn kc kr kt kw ff cv x1 x2))))) := (congrFun eg4 cj).trans ((va_up_ne _ _ ne_cj_om).trans hg_cj)
        have hrs : ∀ q : Nat, q ≠ om → q ≠ cj → g4 q = g q := fun q h_om h_cj => (congrFun eg4 q).trans ((va_up_ne _ _ h_om).trans (hrs q h_om h_cj))
        refine lv_lload hx hb dX3_becomes_126 (lv_at hl 0 rfl) ?_
        have hF : fX3_becomes kn kc kr kt kw ff cv x1 x2 = (fX3_within kn kc kr kt kw ff cv x1 x2, fX3_set kn kc kr kt kw ff (fX3_set kn kc kr kt kw ff (fX3_set kn kc kr kt kw ff cv x1 (2 : Int32) (fX3_within kn kc kr kt kw ff cv x1 x2)) x1 (5 : Int32) (fX3_within kn kc kr kt kw ff cv x1 x2)) x1 (6 : Int32) (fX3_sizeOf (ff x1.toNatClampNeg) (fX3_within kn kc kr kt kw ff cv x1 x2)), kc + (1 : Int32)) := (by unfold fX3_becomes; rw [if_pos c_1, if_neg c_2, if_neg c_4])
        have hF0 : (fX3_becomes kn kc kr kt kw ff cv x1 x2).1 = fX3_within kn kc kr kt kw ff cv x1 x2 := by rw [hF]
        have hF1 : (fX3_becomes kn kc kr kt kw ff cv x1 x2).2.1 = fX3_set kn kc kr kt kw ff (fX3_set kn kc kr kt kw ff (fX3_set kn kc kr kt kw ff cv x1 (2 : Int32) (fX3_within kn kc kr kt kw ff cv x1 x2)) x1 (5 : Int32) (fX3_within kn kc kr kt kw ff cv x1 x2)) x1 (6 : Int32) (fX3_sizeOf (ff x1.toNatClampNeg) (fX3_within kn kc kr kt kw ff cv x1 x2)) := by rw [hF]
        have hF2 : (fX3_becomes kn kc kr kt kw ff cv x1 x2).2.2 = kc + (1 : Int32) := by rw [hF]
        exact W.lret hx hb hr (fun t ht hW => ⟨congrArg (fun z => Outcome.returned (some (Value.long z))) hF0.symm, ⟨g4, WM hP hK hD hKC0 hTC hS ht hW.alike, by rw [hF1, hF2]; exact ⟨hg_om, hg_cj, hrs⟩⟩, hS.F ht⟩) (fun q h => hS.2.2 q h) dX3_becomes_128
  · refine lv_aload_n hx hb dX3_becomes_46 rfl (lv_at hl 2 rfl) ?_
    refine lv_iload_n hx hb dX3_becomes_47 rfl (lv_at hl 3 rfl) ?_
    refine lv_iconst (v := 4) hx hb dX3_becomes_48 (by decide) ?_
    refine lv_lload hx hb dX3_becomes_49 (lv_at hl 0 rfl) ?_
    refine mc_V (b := om) (As := [.int x1, .int (4 : Int32), .long (fX3_within kn kc kr kt kw ff cv x1 x2)]) (rest := []) ⟨hx, hb, hml, hown, hts⟩ (c_X3_set l D tys ad L g1  om fz cj kn kc kr kt kw ff (fX3_set kn kc kr kt kw ff cv x1 (2 : Int32) (fX3_within kn kc kr kt kw ff cv x1 x2)) x1 (4 : Int32) (fX3_within kn kc kr kt kw ff cv x1 x2) hL_om hL_fz hL_cj hg_om hg_fz hg_cj ne_om_cj ne_fz_cj htJ htZ (ix_in hn (by unfold vp_in; decide))) (cwV 3 hts gX3_becomes_X3_set rfl rfl rfl hd_X3_set ⟨Nat.le_of_ble_eq_true rfl, Nat.le_of_ble_eq_true rfl⟩) (pg_recv hK hP hL_om hg_om rfl) (fun U hU hvm => WM hP hK hD hKC0 hTC hS hU hvm) hXN hS (fun _ h => h) rfl hl.1 rfl (lv_room (Nat.le_of_ble_eq_true rfl)) dX3_becomes_51 ⟨Nat.le_of_ble_eq_true rfl, Nat.le_of_ble_eq_true rfl⟩ (fun g2 H locs hp9 hP hD hS => ?_)
    refine W.eq (g2 := F0 m 54 ls []) rfl ?_
    obtain ⟨hn9_cj, hr9⟩ := hp9
    have hg_om : g2 om = .inr (3, [.ref fz, .ref cj, .int kn, .int kc, .int kr, .int kt, .long kw]) := (hr9 om ne_om_cj).trans hg_om
    have hg_fz : g2 fz = .inl (cyZ, 8, .inl ff) := (hr9 fz ne_fz_cj).trans hg_fz
    have hg_cj : g2 cj = .inl (cyJ, 56, .inr (.inl (fX3_set kn kc kr kt kw ff (fX3_set kn kc kr kt kw ff cv x1 (2 : Int32) (fX3_within kn kc kr kt kw ff cv x1 x2)) x1 (4 : Int32) (fX3_within kn kc kr kt kw ff cv x1 x2)))) := hn9_cj
    have hrs : ∀ q : Nat, q ≠ om → q ≠ cj → g2 q = g q := fun q h_om h_cj => (hr9 q h_cj).trans (hrs q h_om h_cj)
    refine lv_iload hx hb dX3_becomes_54 (lv_at hl 1 rfl) ?_
    refine lv_lload hx hb dX3_becomes_56 (lv_at hl 0 rfl) ?_
    refine pc_0 (As := [.int (ff x1.toNatClampNeg), .long (fX3_within kn kc kr kt kw ff cv x1 x2)]) (rest := []) (r := .long (fX3_rank (ff x1.toNatClampNeg) (fX3_within kn kc kr kt kw ff cv x1 x2))) ⟨hx, hb, hml, hown, hts⟩ (c_X3_rank l (ff x1.toNatClampNeg) (fX3_within kn kc kr kt kw ff cv x1 x2)) (va_cwS 2 hts gX3_becomes_X3_rank rfl rfl rfl hd_X3_rank ⟨Nat.le_of_ble_eq_true rfl, Nat.le_of_ble_eq_true rfl⟩) rfl hl.1 rfl (lv_room (Nat.le_of_ble_eq_true rfl)) dX3_becomes_58 ⟨Nat.le_of_ble_eq_true rfl, Nat.le_of_ble_eq_true rfl⟩ ?_
    refine lv_iload hx hb dX3_becomes_61 (lv_at hl 1 rfl) ?_
    refine lv_aload_n hx hb dX3_becomes_63 rfl (lv_at hl 2 rfl) ?_
    refine lv_iload_n hx hb dX3_becomes_64 rfl (lv_at hl 3 rfl) ?_
    refine lv_iconst (v := 5) hx hb dX3_becomes_65 (by decide) ?_
    refine rc_V (b := om) (r := .long (fX3_get kn kc kr kt kw ff (fX3_set kn kc kr kt kw ff (fX3_set kn kc kr kt kw ff cv x1 (2 : Int32) (fX3_within kn kc kr kt kw ff cv x1 x2)) x1 (4 : Int32) (fX3_within kn kc kr kt kw ff cv x1 x2)) x1 (5 : Int32))) (As := [.int x1, .int (5 : Int32)]) (rest := [.int (ff x1.toNatClampNeg), .long (fX3_rank (ff x1.toNatClampNeg) (fX3_within kn kc kr kt kw ff cv x1 x2))]) ⟨hx, hb, hml, hown, hts⟩ (c_X3_get l D tys ad L g2  om fz cj kn kc kr kt kw ff (fX3_set kn kc kr kt kw ff (fX3_set kn kc kr kt kw ff cv x1 (2 : Int32) (fX3_within kn kc kr kt kw ff cv x1 x2)) x1 (4 : Int32) (fX3_within kn kc kr kt kw ff cv x1 x2)) x1 (5 : Int32) hL_om hL_fz hL_cj hg_om hg_fz hg_cj htJ htZ (ix_in hn (by unfold vp_in; decide))) (cwV 2 hts gX3_becomes_X3_get rfl rfl rfl hd_X3_get ⟨Nat.le_of_ble_eq_true rfl, Nat.le_of_ble_eq_true rfl⟩) (pg_recv hK hP hL_om hg_om rfl) (fun U hU hvm => WM hP hK hD hKC0 hTC hS hU hvm) hXN rfl hl.1 rfl (lv_room (Nat.le_of_ble_eq_true rfl)) dX3_becomes_66 ⟨Nat.le_of_ble_eq_true rfl, Nat.le_of_ble_eq_true rfl⟩ ?_
    refine pc_0 (As := [.int (ff x1.toNatClampNeg), .long (fX3_get kn kc kr kt kw ff (fX3_set kn kc kr kt kw ff (fX3_set kn kc kr kt kw ff cv x1 (2 : Int32) (fX3_within kn kc kr kt kw ff cv x1 x2)) x1 (4 : Int32) (fX3_within kn kc kr kt kw ff cv x1 x2)) x1 (5 : Int32))]) (rest := [.long (fX3_rank (ff x1.toNatClampNeg) (fX3_within kn kc kr kt kw ff cv x1 x2))]) (r := .long (fX3_rank (ff x1.toNatClampNeg) (fX3_get kn kc kr kt kw ff (fX3_set kn kc kr kt kw ff (fX3_set kn kc kr kt kw ff cv x1 (2 : Int32) (fX3_within kn kc kr kt kw ff cv x1 x2)) x1 (4 : Int32) (fX3_within kn kc kr kt kw ff cv x1 x2)) x1 (5 : Int32)))) ⟨hx, hb, hml, hown, hts⟩ (c_X3_rank l (ff x1.toNatClampNeg) (fX3_get kn kc kr kt kw ff (fX3_set kn kc kr kt kw ff (fX3_set kn kc kr kt kw ff cv x1 (2 : Int32) (fX3_within kn kc kr kt kw ff cv x1 x2)) x1 (4 : Int32) (fX3_within kn kc kr kt kw ff cv x1 x2)) x1 (5 : Int32))) (va_cwS 2 hts gX3_becomes_X3_rank rfl rfl rfl hd_X3_rank ⟨Nat.le_of_ble_eq_true rfl, Nat.le_of_ble_eq_true rfl⟩) rfl hl.1 rfl (lv_room (Nat.le_of_ble_eq_true rfl)) dX3_becomes_69 ⟨Nat.le_of_ble_eq_true rfl, Nat.le_of_ble_eq_true rfl⟩ ?_
    refine pl_ge (tgt := 84) hx hb dX3_becomes_72 dX3_becomes_73 (by decide) (fun c_5 => ?_) (fun c_5 => ?_)
    · refine lv_iload hx hb dX3_becomes_84 (lv_at hl 1 rfl) ?_
      refine lv_lload hx hb dX3_becomes_86 (lv_at hl 0 rfl) ?_
      refine pc_0 (As := [.int (ff x1.toNatClampNeg), .long (fX3_within kn kc kr kt kw ff cv x1 x2)]) (rest := []) (r := .long (fX3_sizeOf (ff x1.toNatClampNeg) (fX3_within kn kc kr kt kw ff cv x1 x2))) ⟨hx, hb, hml, hown, hts⟩ (c_X3_sizeOf l (ff x1.toNatClampNeg) (fX3_within kn kc kr kt kw ff cv x1 x2)) (va_cwS 2 hts gX3_becomes_X3_sizeOf rfl rfl rfl hd_X3_sizeOf ⟨Nat.le_of_ble_eq_true rfl, Nat.le_of_ble_eq_true rfl⟩) rfl hl.1 rfl (lv_room (Nat.le_of_ble_eq_true rfl)) dX3_becomes_88 ⟨Nat.le_of_ble_eq_true rfl, Nat.le_of_ble_eq_true rfl⟩ ?_
      refine lv_aload_n hx hb dX3_becomes_91 rfl (lv_at hl 2 rfl) ?_
      refine lv_iload_n hx hb dX3_becomes_92 rfl (lv_at hl 3 rfl) ?_
      refine lv_bipush (v := (6)) hx hb dX3_becomes_93 (by decide) ?_
      refine rc_V (b := om) (r := .long (fX3_get kn kc kr kt kw ff (fX3_set kn kc kr kt kw ff (fX3_set kn kc kr kt kw ff cv x1 (2 : Int32) (fX3_within kn kc kr kt kw ff cv x1 x2)) x1 (4 : Int32) (fX3_within kn kc kr kt kw ff cv x1 x2)) x1 (6 : Int32))) (As := [.int x1, .int (6 : Int32)]) (rest := [.long (fX3_sizeOf (ff x1.toNatClampNeg) (fX3_within kn kc kr kt kw ff cv x1 x2))]) ⟨hx, hb, hml, hown, hts⟩ (c_X3_get l D tys ad L g2  om fz cj kn kc kr kt kw ff (fX3_set kn kc kr kt kw ff (fX3_set kn kc kr kt kw ff cv x1 (2 : Int32) (fX3_within kn kc kr kt kw ff cv x1 x2)) x1 (4 : Int32) (fX3_within kn kc kr kt kw ff cv x1 x2)) x1 (6 : Int32) hL_om hL_fz hL_cj hg_om hg_fz hg_cj htJ htZ (ix_in hn (by unfold vp_in; decide))) (cwV 2 hts gX3_becomes_X3_get rfl rfl rfl hd_X3_get ⟨Nat.le_of_ble_eq_true rfl, Nat.le_of_ble_eq_true rfl⟩) (pg_recv hK hP hL_om hg_om rfl) (fun U hU hvm => WM hP hK hD hKC0 hTC hS hU hvm) hXN rfl hl.1 rfl (lv_room (Nat.le_of_ble_eq_true rfl)) dX3_becomes_95 ⟨Nat.le_of_ble_eq_true rfl, Nat.le_of_ble_eq_true rfl⟩ ?_
      refine pl_le (tgt := 116) hx hb dX3_becomes_98 dX3_becomes_99 (by decide) (fun c_6 => ?_) (fun c_6 => ?_)
      · refine lv_aload_n hx hb dX3_becomes_116 rfl (lv_at hl 2 rfl) ?_
        refine lv_dup hx hb dX3_becomes_117 rfl ?_
        refine pg_get hx hb hts hin_X3_X3_becomes hown hK hP hL_om hg_om rfl 3 (by decide) (hts (.fieldLink RX3 92 "NeedleBoardModel" "calls" "I") (by decide +kernel)) rfl dX3_becomes_118 ?_
        refine lv_iconst (v := 1) hx hb dX3_becomes_121 (by decide) ?_
        refine lv_iadd hx hb dX3_becomes_122 ?_
        refine pg_put (ty := .int) hx hb hts hin_X3_X3_becomes tyX3 tyX3_ok nmX3 hown hK hP hD hS hL_om hg_om rfl 3 (by decide) (hts (.fieldLink RX3 92 "NeedleBoardModel" "calls" "I") (by decide +kernel)) rfl (by decide +kernel) rfl rfl (Nat.le_of_ble_eq_true rfl) dX3_becomes_123 (fun H locs hP hD hS => ?_)
        obtain ⟨g3, eg3⟩ : ∃ z : Nat → va_E, z = va_up g2 om (.inr (3, [.ref fz, .ref cj, .int kn, .int (kc + (1 : Int32)), .int kr, .int kt, .long kw])) := ⟨_, rfl⟩
        have hP : va_P D vwCl (va_pl L g3) H := by rw [eg3]; exact hP
        have hD : va_D (fun q => q ∈ L) (va_pl L g3) := by rw [eg3]; exact hD
        have hg_om : g3 om = .inr (3, [.ref fz, .ref cj, .int kn, .int (kc + (1 : Int32)), .int kr, .int kt, .long kw]) := by rw [eg3]; exact va_up_self _ _ _
        have hg_fz : g3 fz = .inl (cyZ, 8, .inl ff) := (congrFun eg3 fz).trans ((va_up_ne _ _ ne_fz_om).trans hg_fz)
        have hg_cj : g3 cj = .inl (cyJ, 56, .inr (.inl (fX3_set kn kc kr kt kw ff (fX3_set kn kc kr kt kw ff cv x1 (2 : Int32) (fX3_within kn kc kr kt kw ff cv x1 x2)) x1 (4 : Int32) (fX3_within kn kc kr kt kw ff cv x1 x2)))) := (congrFun eg3 cj).trans ((va_up_ne _ _ ne_cj_om).trans hg_cj)
        have hrs : ∀ q : Nat, q ≠ om → q ≠ cj → g3 q = g q := fun q h_om h_cj => (congrFun eg3 q).trans ((va_up_ne _ _ h_om).trans (hrs q h_om h_cj))
        refine lv_lload hx hb dX3_becomes_126 (lv_at hl 0 rfl) ?_
        have hF : fX3_becomes kn kc kr kt kw ff cv x1 x2 = (fX3_within kn kc kr kt kw ff cv x1 x2, fX3_set kn kc kr kt kw ff (fX3_set kn kc kr kt kw ff cv x1 (2 : Int32) (fX3_within kn kc kr kt kw ff cv x1 x2)) x1 (4 : Int32) (fX3_within kn kc kr kt kw ff cv x1 x2), kc + (1 : Int32)) := (by unfold fX3_becomes; rw [if_neg c_1, if_pos c_5, if_pos c_6])
        have hF0 : (fX3_becomes kn kc kr kt kw ff cv x1 x2).1 = fX3_within kn kc kr kt kw ff cv x1 x2 := by rw [hF]
        have hF1 : (fX3_becomes kn kc kr kt kw ff cv x1 x2).2.1 = fX3_set kn kc kr kt kw ff (fX3_set kn kc kr kt kw ff cv x1 (2 : Int32) (fX3_within kn kc kr kt kw ff cv x1 x2)) x1 (4 : Int32) (fX3_within kn kc kr kt kw ff cv x1 x2) := by rw [hF]
        have hF2 : (fX3_becomes kn kc kr kt kw ff cv x1 x2).2.2 = kc + (1 : Int32) := by rw [hF]
        exact W.lret hx hb hr (fun t ht hW => ⟨congrArg (fun z => Outcome.returned (some (Value.long z))) hF0.symm, ⟨g3, WM hP hK hD hKC0 hTC hS ht hW.alike, by rw [hF1, hF2]; exact ⟨hg_om, hg_cj, hrs⟩⟩, hS.F ht⟩) (fun q h => hS.2.2 q h) dX3_becomes_128
      · refine lv_aload_n hx hb dX3_becomes_102 rfl (lv_at hl 2 rfl) ?_
        refine lv_iload_n hx hb dX3_becomes_103 rfl (lv_at hl 3 rfl) ?_
        refine lv_bipush (v := (6)) hx hb dX3_becomes_104 (by decide) ?_
        refine lv_iload hx hb dX3_becomes_106 (lv_at hl 1 rfl) ?_
        refine lv_lload hx hb dX3_becomes_108 (lv_at hl 0 rfl) ?_
        refine pc_0 (As := [.int (ff x1.toNatClampNeg), .long (fX3_within kn kc kr kt kw ff cv x1 x2)]) (rest := [.int (6 : Int32), .int x1, .ref om]) (r := .long (fX3_sizeOf (ff x1.toNatClampNeg) (fX3_within kn kc kr kt kw ff cv x1 x2))) ⟨hx, hb, hml, hown, hts⟩ (c_X3_sizeOf l (ff x1.toNatClampNeg) (fX3_within kn kc kr kt kw ff cv x1 x2)) (va_cwS 2 hts gX3_becomes_X3_sizeOf rfl rfl rfl hd_X3_sizeOf ⟨Nat.le_of_ble_eq_true rfl, Nat.le_of_ble_eq_true rfl⟩) rfl hl.1 rfl (lv_room (Nat.le_of_ble_eq_true rfl)) dX3_becomes_110 ⟨Nat.le_of_ble_eq_true rfl, Nat.le_of_ble_eq_true rfl⟩ ?_
        refine mc_V (b := om) (As := [.int x1, .int (6 : Int32), .long (fX3_sizeOf (ff x1.toNatClampNeg) (fX3_within kn kc kr kt kw ff cv x1 x2))]) (rest := []) ⟨hx, hb, hml, hown, hts⟩ (c_X3_set l D tys ad L g2  om fz cj kn kc kr kt kw ff (fX3_set kn kc kr kt kw ff (fX3_set kn kc kr kt kw ff cv x1 (2 : Int32) (fX3_within kn kc kr kt kw ff cv x1 x2)) x1 (4 : Int32) (fX3_within kn kc kr kt kw ff cv x1 x2)) x1 (6 : Int32) (fX3_sizeOf (ff x1.toNatClampNeg) (fX3_within kn kc kr kt kw ff cv x1 x2)) hL_om hL_fz hL_cj hg_om hg_fz hg_cj ne_om_cj ne_fz_cj htJ htZ (ix_in hn (by unfold vp_in; decide))) (cwV 3 hts gX3_becomes_X3_set rfl rfl rfl hd_X3_set ⟨Nat.le_of_ble_eq_true rfl, Nat.le_of_ble_eq_true rfl⟩) (pg_recv hK hP hL_om hg_om rfl) (fun U hU hvm => WM hP hK hD hKC0 hTC hS hU hvm) hXN hS (fun _ h => h) rfl hl.1 rfl (lv_room (Nat.le_of_ble_eq_true rfl)) dX3_becomes_113 ⟨Nat.le_of_ble_eq_true rfl, Nat.le_of_ble_eq_true rfl⟩ (fun g3 H locs hp9 hP hD hS => ?_)
        refine W.eq (g2 := F0 m 116 ls []) rfl ?_
        obtain ⟨hn9_cj, hr9⟩ := hp9
        have hg_om : g3 om = .inr (3, [.ref fz, .ref cj, .int kn, .int kc, .int kr, .int kt, .long kw]) := (hr9 om ne_om_cj).trans hg_om
        have hg_fz : g3 fz = .inl (cyZ, 8, .inl ff) := (hr9 fz ne_fz_cj).trans hg_fz
        have hg_cj : g3 cj = .inl (cyJ, 56, .inr (.inl (fX3_set kn kc kr kt kw ff (fX3_set kn kc kr kt kw ff (fX3_set kn kc kr kt kw ff cv x1 (2 : Int32) (fX3_within kn kc kr kt kw ff cv x1 x2)) x1 (4 : Int32) (fX3_within kn kc kr kt kw ff cv x1 x2)) x1 (6 : Int32) (fX3_sizeOf (ff x1.toNatClampNeg) (fX3_within kn kc kr kt kw ff cv x1 x2))))) := hn9_cj
        have hrs : ∀ q : Nat, q ≠ om → q ≠ cj → g3 q = g q := fun q h_om h_cj => (hr9 q h_cj).trans (hrs q h_om h_cj)
        refine lv_aload_n hx hb dX3_becomes_116 rfl (lv_at hl 2 rfl) ?_
        refine lv_dup hx hb dX3_becomes_117 rfl ?_
        refine pg_get hx hb hts hin_X3_X3_becomes hown hK hP hL_om hg_om rfl 3 (by decide) (hts (.fieldLink RX3 92 "NeedleBoardModel" "calls" "I") (by decide +kernel)) rfl dX3_becomes_118 ?_
        refine lv_iconst (v := 1) hx hb dX3_becomes_121 (by decide) ?_
        refine lv_iadd hx hb dX3_becomes_122 ?_
        refine pg_put (ty := .int) hx hb hts hin_X3_X3_becomes tyX3 tyX3_ok nmX3 hown hK hP hD hS hL_om hg_om rfl 3 (by decide) (hts (.fieldLink RX3 92 "NeedleBoardModel" "calls" "I") (by decide +kernel)) rfl (by decide +kernel) rfl rfl (Nat.le_of_ble_eq_true rfl) dX3_becomes_123 (fun H locs hP hD hS => ?_)
        obtain ⟨g4, eg4⟩ : ∃ z : Nat → va_E, z = va_up g3 om (.inr (3, [.ref fz, .ref cj, .int kn, .int (kc + (1 : Int32)), .int kr, .int kt, .long kw])) := ⟨_, rfl⟩
        have hP : va_P D vwCl (va_pl L g4) H := by rw [eg4]; exact hP
        have hD : va_D (fun q => q ∈ L) (va_pl L g4) := by rw [eg4]; exact hD
        have hg_om : g4 om = .inr (3, [.ref fz, .ref cj, .int kn, .int (kc + (1 : Int32)), .int kr, .int kt, .long kw]) := by rw [eg4]; exact va_up_self _ _ _
        have hg_fz : g4 fz = .inl (cyZ, 8, .inl ff) := (congrFun eg4 fz).trans ((va_up_ne _ _ ne_fz_om).trans hg_fz)
        have hg_cj : g4 cj = .inl (cyJ, 56, .inr (.inl (fX3_set kn kc kr kt kw ff (fX3_set kn kc kr kt kw ff (fX3_set kn kc kr kt kw ff cv x1 (2 : Int32) (fX3_within kn kc kr kt kw ff cv x1 x2)) x1 (4 : Int32) (fX3_within kn kc kr kt kw ff cv x1 x2)) x1 (6 : Int32) (fX3_sizeOf (ff x1.toNatClampNeg) (fX3_within kn kc kr kt kw ff cv x1 x2))))) := (congrFun eg4 cj).trans ((va_up_ne _ _ ne_cj_om).trans hg_cj)
        have hrs : ∀ q : Nat, q ≠ om → q ≠ cj → g4 q = g q := fun q h_om h_cj => (congrFun eg4 q).trans ((va_up_ne _ _ h_om).trans (hrs q h_om h_cj))
        refine lv_lload hx hb dX3_becomes_126 (lv_at hl 0 rfl) ?_
        have hF : fX3_becomes kn kc kr kt kw ff cv x1 x2 = (fX3_within kn kc kr kt kw ff cv x1 x2, fX3_set kn kc kr kt kw ff (fX3_set kn kc kr kt kw ff (fX3_set kn kc kr kt kw ff cv x1 (2 : Int32) (fX3_within kn kc kr kt kw ff cv x1 x2)) x1 (4 : Int32) (fX3_within kn kc kr kt kw ff cv x1 x2)) x1 (6 : Int32) (fX3_sizeOf (ff x1.toNatClampNeg) (fX3_within kn kc kr kt kw ff cv x1 x2)), kc + (1 : Int32)) := (by unfold fX3_becomes; rw [if_neg c_1, if_pos c_5, if_neg c_6])
        have hF0 : (fX3_becomes kn kc kr kt kw ff cv x1 x2).1 = fX3_within kn kc kr kt kw ff cv x1 x2 := by rw [hF]
        have hF1 : (fX3_becomes kn kc kr kt kw ff cv x1 x2).2.1 = fX3_set kn kc kr kt kw ff (fX3_set kn kc kr kt kw ff (fX3_set kn kc kr kt kw ff cv x1 (2 : Int32) (fX3_within kn kc kr kt kw ff cv x1 x2)) x1 (4 : Int32) (fX3_within kn kc kr kt kw ff cv x1 x2)) x1 (6 : Int32) (fX3_sizeOf (ff x1.toNatClampNeg) (fX3_within kn kc kr kt kw ff cv x1 x2)) := by rw [hF]
        have hF2 : (fX3_becomes kn kc kr kt kw ff cv x1 x2).2.2 = kc + (1 : Int32) := by rw [hF]
        exact W.lret hx hb hr (fun t ht hW => ⟨congrArg (fun z => Outcome.returned (some (Value.long z))) hF0.symm, ⟨g4, WM hP hK hD hKC0 hTC hS ht hW.alike, by rw [hF1, hF2]; exact ⟨hg_om, hg_cj, hrs⟩⟩, hS.F ht⟩) (fun q h => hS.2.2 q h) dX3_becomes_128
    · refine lv_aload_n hx hb dX3_becomes_76 rfl (lv_at hl 2 rfl) ?_
      refine lv_iload_n hx hb dX3_becomes_77 rfl (lv_at hl 3 rfl) ?_
      refine lv_iconst (v := 5) hx hb dX3_becomes_78 (by decide) ?_
      refine lv_lload hx hb dX3_becomes_79 (lv_at hl 0 rfl) ?_
      refine mc_V (b := om) (As := [.int x1, .int (5 : Int32), .long (fX3_within kn kc kr kt kw ff cv x1 x2)]) (rest := []) ⟨hx, hb, hml, hown, hts⟩ (c_X3_set l D tys ad L g2  om fz cj kn kc kr kt kw ff (fX3_set kn kc kr kt kw ff (fX3_set kn kc kr kt kw ff cv x1 (2 : Int32) (fX3_within kn kc kr kt kw ff cv x1 x2)) x1 (4 : Int32) (fX3_within kn kc kr kt kw ff cv x1 x2)) x1 (5 : Int32) (fX3_within kn kc kr kt kw ff cv x1 x2) hL_om hL_fz hL_cj hg_om hg_fz hg_cj ne_om_cj ne_fz_cj htJ htZ (ix_in hn (by unfold vp_in; decide))) (cwV 3 hts gX3_becomes_X3_set rfl rfl rfl hd_X3_set ⟨Nat.le_of_ble_eq_true rfl, Nat.le_of_ble_eq_true rfl⟩) (pg_recv hK hP hL_om hg_om rfl) (fun U hU hvm => WM hP hK hD hKC0 hTC hS hU hvm) hXN hS (fun _ h => h) rfl hl.1 rfl (lv_room (Nat.le_of_ble_eq_true rfl)) dX3_becomes_81 ⟨Nat.le_of_ble_eq_true rfl, Nat.le_of_ble_eq_true rfl⟩ (fun g3 H locs hp9 hP hD hS => ?_)
      refine W.eq (g2 := F0 m 84 ls []) rfl ?_
      obtain ⟨hn9_cj, hr9⟩ := hp9
      have hg_om : g3 om = .inr (3, [.ref fz, .ref cj, .int kn, .int kc, .int kr, .int kt, .long kw]) := (hr9 om ne_om_cj).trans hg_om
      have hg_fz : g3 fz = .inl (cyZ, 8, .inl ff) := (hr9 fz ne_fz_cj).trans hg_fz
      have hg_cj : g3 cj = .inl (cyJ, 56, .inr (.inl (fX3_set kn kc kr kt kw ff (fX3_set kn kc kr kt kw ff (fX3_set kn kc kr kt kw ff cv x1 (2 : Int32) (fX3_within kn kc kr kt kw ff cv x1 x2)) x1 (4 : Int32) (fX3_within kn kc kr kt kw ff cv x1 x2)) x1 (5 : Int32) (fX3_within kn kc kr kt kw ff cv x1 x2)))) := hn9_cj
      have hrs : ∀ q : Nat, q ≠ om → q ≠ cj → g3 q = g q := fun q h_om h_cj => (hr9 q h_cj).trans (hrs q h_om h_cj)
      refine lv_iload hx hb dX3_becomes_84 (lv_at hl 1 rfl) ?_
      refine lv_lload hx hb dX3_becomes_86 (lv_at hl 0 rfl) ?_
      refine pc_0 (As := [.int (ff x1.toNatClampNeg), .long (fX3_within kn kc kr kt kw ff cv x1 x2)]) (rest := []) (r := .long (fX3_sizeOf (ff x1.toNatClampNeg) (fX3_within kn kc kr kt kw ff cv x1 x2))) ⟨hx, hb, hml, hown, hts⟩ (c_X3_sizeOf l (ff x1.toNatClampNeg) (fX3_within kn kc kr kt kw ff cv x1 x2)) (va_cwS 2 hts gX3_becomes_X3_sizeOf rfl rfl rfl hd_X3_sizeOf ⟨Nat.le_of_ble_eq_true rfl, Nat.le_of_ble_eq_true rfl⟩) rfl hl.1 rfl (lv_room (Nat.le_of_ble_eq_true rfl)) dX3_becomes_88 ⟨Nat.le_of_ble_eq_true rfl, Nat.le_of_ble_eq_true rfl⟩ ?_
      refine lv_aload_n hx hb dX3_becomes_91 rfl (lv_at hl 2 rfl) ?_
      refine lv_iload_n hx hb dX3_becomes_92 rfl (lv_at hl 3 rfl) ?_
      refine lv_bipush (v := (6)) hx hb dX3_becomes_93 (by decide) ?_
      refine rc_V (b := om) (r := .long (fX3_get kn kc kr kt kw ff (fX3_set kn kc kr kt kw ff (fX3_set kn kc kr kt kw ff (fX3_set kn kc kr kt kw ff cv x1 (2 : Int32) (fX3_within kn kc kr kt kw ff cv x1 x2)) x1 (4 : Int32) (fX3_within kn kc kr kt kw ff cv x1 x2)) x1 (5 : Int32) (fX3_within kn kc kr kt kw ff cv x1 x2)) x1 (6 : Int32))) (As := [.int x1, .int (6 : Int32)]) (rest := [.long (fX3_sizeOf (ff x1.toNatClampNeg) (fX3_within kn kc kr kt kw ff cv x1 x2))]) ⟨hx, hb, hml, hown, hts⟩ (c_X3_get l D tys ad L g3  om fz cj kn kc kr kt kw ff (fX3_set kn kc kr kt kw ff (fX3_set kn kc kr kt kw ff (fX3_set kn kc kr kt kw ff cv x1 (2 : Int32) (fX3_within kn kc kr kt kw ff cv x1 x2)) x1 (4 : Int32) (fX3_within kn kc kr kt kw ff cv x1 x2)) x1 (5 : Int32) (fX3_within kn kc kr kt kw ff cv x1 x2)) x1 (6 : Int32) hL_om hL_fz hL_cj hg_om hg_fz hg_cj htJ htZ (ix_in hn (by unfold vp_in; decide))) (cwV 2 hts gX3_becomes_X3_get rfl rfl rfl hd_X3_get ⟨Nat.le_of_ble_eq_true rfl, Nat.le_of_ble_eq_true rfl⟩) (pg_recv hK hP hL_om hg_om rfl) (fun U hU hvm => WM hP hK hD hKC0 hTC hS hU hvm) hXN rfl hl.1 rfl (lv_room (Nat.le_of_ble_eq_true rfl)) dX3_becomes_95 ⟨Nat.le_of_ble_eq_true rfl, Nat.le_of_ble_eq_true rfl⟩ ?_
      refine pl_le (tgt := 116) hx hb dX3_becomes_98 dX3_becomes_99 (by decide) (fun c_7 => ?_) (fun c_7 => ?_)
      · refine lv_aload_n hx hb dX3_becomes_116 rfl (lv_at hl 2 rfl) ?_
        refine lv_dup hx hb dX3_becomes_117 rfl ?_
        refine pg_get hx hb hts hin_X3_X3_becomes hown hK hP hL_om hg_om rfl 3 (by decide) (hts (.fieldLink RX3 92 "NeedleBoardModel" "calls" "I") (by decide +kernel)) rfl dX3_becomes_118 ?_
        refine lv_iconst (v := 1) hx hb dX3_becomes_121 (by decide) ?_
        refine lv_iadd hx hb dX3_becomes_122 ?_
        refine pg_put (ty := .int) hx hb hts hin_X3_X3_becomes tyX3 tyX3_ok nmX3 hown hK hP hD hS hL_om hg_om rfl 3 (by decide) (hts (.fieldLink RX3 92 "NeedleBoardModel" "calls" "I") (by decide +kernel)) rfl (by decide +kernel) rfl rfl (Nat.le_of_ble_eq_true rfl) dX3_becomes_123 (fun H locs hP hD hS => ?_)
        obtain ⟨g4, eg4⟩ : ∃ z : Nat → va_E, z = va_up g3 om (.inr (3, [.ref fz, .ref cj, .int kn, .int (kc + (1 : Int32)), .int kr, .int kt, .long kw])) := ⟨_, rfl⟩
        have hP : va_P D vwCl (va_pl L g4) H := by rw [eg4]; exact hP
        have hD : va_D (fun q => q ∈ L) (va_pl L g4) := by rw [eg4]; exact hD
        have hg_om : g4 om = .inr (3, [.ref fz, .ref cj, .int kn, .int (kc + (1 : Int32)), .int kr, .int kt, .long kw]) := by rw [eg4]; exact va_up_self _ _ _
        have hg_fz : g4 fz = .inl (cyZ, 8, .inl ff) := (congrFun eg4 fz).trans ((va_up_ne _ _ ne_fz_om).trans hg_fz)
        have hg_cj : g4 cj = .inl (cyJ, 56, .inr (.inl (fX3_set kn kc kr kt kw ff (fX3_set kn kc kr kt kw ff (fX3_set kn kc kr kt kw ff cv x1 (2 : Int32) (fX3_within kn kc kr kt kw ff cv x1 x2)) x1 (4 : Int32) (fX3_within kn kc kr kt kw ff cv x1 x2)) x1 (5 : Int32) (fX3_within kn kc kr kt kw ff cv x1 x2)))) := (congrFun eg4 cj).trans ((va_up_ne _ _ ne_cj_om).trans hg_cj)
        have hrs : ∀ q : Nat, q ≠ om → q ≠ cj → g4 q = g q := fun q h_om h_cj => (congrFun eg4 q).trans ((va_up_ne _ _ h_om).trans (hrs q h_om h_cj))
        refine lv_lload hx hb dX3_becomes_126 (lv_at hl 0 rfl) ?_
        have hF : fX3_becomes kn kc kr kt kw ff cv x1 x2 = (fX3_within kn kc kr kt kw ff cv x1 x2, fX3_set kn kc kr kt kw ff (fX3_set kn kc kr kt kw ff (fX3_set kn kc kr kt kw ff cv x1 (2 : Int32) (fX3_within kn kc kr kt kw ff cv x1 x2)) x1 (4 : Int32) (fX3_within kn kc kr kt kw ff cv x1 x2)) x1 (5 : Int32) (fX3_within kn kc kr kt kw ff cv x1 x2), kc + (1 : Int32)) := (by unfold fX3_becomes; rw [if_neg c_1, if_neg c_5, if_pos c_7])
        have hF0 : (fX3_becomes kn kc kr kt kw ff cv x1 x2).1 = fX3_within kn kc kr kt kw ff cv x1 x2 := by rw [hF]
        have hF1 : (fX3_becomes kn kc kr kt kw ff cv x1 x2).2.1 = fX3_set kn kc kr kt kw ff (fX3_set kn kc kr kt kw ff (fX3_set kn kc kr kt kw ff cv x1 (2 : Int32) (fX3_within kn kc kr kt kw ff cv x1 x2)) x1 (4 : Int32) (fX3_within kn kc kr kt kw ff cv x1 x2)) x1 (5 : Int32) (fX3_within kn kc kr kt kw ff cv x1 x2) := by rw [hF]
        have hF2 : (fX3_becomes kn kc kr kt kw ff cv x1 x2).2.2 = kc + (1 : Int32) := by rw [hF]
        exact W.lret hx hb hr (fun t ht hW => ⟨congrArg (fun z => Outcome.returned (some (Value.long z))) hF0.symm, ⟨g4, WM hP hK hD hKC0 hTC hS ht hW.alike, by rw [hF1, hF2]; exact ⟨hg_om, hg_cj, hrs⟩⟩, hS.F ht⟩) (fun q h => hS.2.2 q h) dX3_becomes_128
      · refine lv_aload_n hx hb dX3_becomes_102 rfl (lv_at hl 2 rfl) ?_
        refine lv_iload_n hx hb dX3_becomes_103 rfl (lv_at hl 3 rfl) ?_
        refine lv_bipush (v := (6)) hx hb dX3_becomes_104 (by decide) ?_
        refine lv_iload hx hb dX3_becomes_106 (lv_at hl 1 rfl) ?_
        refine lv_lload hx hb dX3_becomes_108 (lv_at hl 0 rfl) ?_
        refine pc_0 (As := [.int (ff x1.toNatClampNeg), .long (fX3_within kn kc kr kt kw ff cv x1 x2)]) (rest := [.int (6 : Int32), .int x1, .ref om]) (r := .long (fX3_sizeOf (ff x1.toNatClampNeg) (fX3_within kn kc kr kt kw ff cv x1 x2))) ⟨hx, hb, hml, hown, hts⟩ (c_X3_sizeOf l (ff x1.toNatClampNeg) (fX3_within kn kc kr kt kw ff cv x1 x2)) (va_cwS 2 hts gX3_becomes_X3_sizeOf rfl rfl rfl hd_X3_sizeOf ⟨Nat.le_of_ble_eq_true rfl, Nat.le_of_ble_eq_true rfl⟩) rfl hl.1 rfl (lv_room (Nat.le_of_ble_eq_true rfl)) dX3_becomes_110 ⟨Nat.le_of_ble_eq_true rfl, Nat.le_of_ble_eq_true rfl⟩ ?_
        refine mc_V (b := om) (As := [.int x1, .int (6 : Int32), .long (fX3_sizeOf (ff x1.toNatClampNeg) (fX3_within kn kc kr kt kw ff cv x1 x2))]) (rest := []) ⟨hx, hb, hml, hown, hts⟩ (c_X3_set l D tys ad L g3  om fz cj kn kc kr kt kw ff (fX3_set kn kc kr kt kw ff (fX3_set kn kc kr kt kw ff (fX3_set kn kc kr kt kw ff cv x1 (2 : Int32) (fX3_within kn kc kr kt kw ff cv x1 x2)) x1 (4 : Int32) (fX3_within kn kc kr kt kw ff cv x1 x2)) x1 (5 : Int32) (fX3_within kn kc kr kt kw ff cv x1 x2)) x1 (6 : Int32) (fX3_sizeOf (ff x1.toNatClampNeg) (fX3_within kn kc kr kt kw ff cv x1 x2)) hL_om hL_fz hL_cj hg_om hg_fz hg_cj ne_om_cj ne_fz_cj htJ htZ (ix_in hn (by unfold vp_in; decide))) (cwV 3 hts gX3_becomes_X3_set rfl rfl rfl hd_X3_set ⟨Nat.le_of_ble_eq_true rfl, Nat.le_of_ble_eq_true rfl⟩) (pg_recv hK hP hL_om hg_om rfl) (fun U hU hvm => WM hP hK hD hKC0 hTC hS hU hvm) hXN hS (fun _ h => h) rfl hl.1 rfl (lv_room (Nat.le_of_ble_eq_true rfl)) dX3_becomes_113 ⟨Nat.le_of_ble_eq_true rfl, Nat.le_of_ble_eq_true rfl⟩ (fun g4 H locs hp9 hP hD hS => ?_)
        refine W.eq (g2 := F0 m 116 ls []) rfl ?_
        obtain ⟨hn9_cj, hr9⟩ := hp9
        have hg_om : g4 om = .inr (3, [.ref fz, .ref cj, .int kn, .int kc, .int kr, .int kt, .long kw]) := (hr9 om ne_om_cj).trans hg_om
        have hg_fz : g4 fz = .inl (cyZ, 8, .inl ff) := (hr9 fz ne_fz_cj).trans hg_fz
        have hg_cj : g4 cj = .inl (cyJ, 56, .inr (.inl (fX3_set kn kc kr kt kw ff (fX3_set kn kc kr kt kw ff (fX3_set kn kc kr kt kw ff (fX3_set kn kc kr kt kw ff cv x1 (2 : Int32) (fX3_within kn kc kr kt kw ff cv x1 x2)) x1 (4 : Int32) (fX3_within kn kc kr kt kw ff cv x1 x2)) x1 (5 : Int32) (fX3_within kn kc kr kt kw ff cv x1 x2)) x1 (6 : Int32) (fX3_sizeOf (ff x1.toNatClampNeg) (fX3_within kn kc kr kt kw ff cv x1 x2))))) := hn9_cj
        have hrs : ∀ q : Nat, q ≠ om → q ≠ cj → g4 q = g q := fun q h_om h_cj => (hr9 q h_cj).trans (hrs q h_om h_cj)
        refine lv_aload_n hx hb dX3_becomes_116 rfl (lv_at hl 2 rfl) ?_
        refine lv_dup hx hb dX3_becomes_117 rfl ?_
        refine pg_get hx hb hts hin_X3_X3_becomes hown hK hP hL_om hg_om rfl 3 (by decide) (hts (.fieldLink RX3 92 "NeedleBoardModel" "calls" "I") (by decide +kernel)) rfl dX3_becomes_118 ?_
        refine lv_iconst (v := 1) hx hb dX3_becomes_121 (by decide) ?_
        refine lv_iadd hx hb dX3_becomes_122 ?_
        refine pg_put (ty := .int) hx hb hts hin_X3_X3_becomes tyX3 tyX3_ok nmX3 hown hK hP hD hS hL_om hg_om rfl 3 (by decide) (hts (.fieldLink RX3 92 "NeedleBoardModel" "calls" "I") (by decide +kernel)) rfl (by decide +kernel) rfl rfl (Nat.le_of_ble_eq_true rfl) dX3_becomes_123 (fun H locs hP hD hS => ?_)
        obtain ⟨g5, eg5⟩ : ∃ z : Nat → va_E, z = va_up g4 om (.inr (3, [.ref fz, .ref cj, .int kn, .int (kc + (1 : Int32)), .int kr, .int kt, .long kw])) := ⟨_, rfl⟩
        have hP : va_P D vwCl (va_pl L g5) H := by rw [eg5]; exact hP
        have hD : va_D (fun q => q ∈ L) (va_pl L g5) := by rw [eg5]; exact hD
        have hg_om : g5 om = .inr (3, [.ref fz, .ref cj, .int kn, .int (kc + (1 : Int32)), .int kr, .int kt, .long kw]) := by rw [eg5]; exact va_up_self _ _ _
        have hg_fz : g5 fz = .inl (cyZ, 8, .inl ff) := (congrFun eg5 fz).trans ((va_up_ne _ _ ne_fz_om).trans hg_fz)
        have hg_cj : g5 cj = .inl (cyJ, 56, .inr (.inl (fX3_set kn kc kr kt kw ff (fX3_set kn kc kr kt kw ff (fX3_set kn kc kr kt kw ff (fX3_set kn kc kr kt kw ff cv x1 (2 : Int32) (fX3_within kn kc kr kt kw ff cv x1 x2)) x1 (4 : Int32) (fX3_within kn kc kr kt kw ff cv x1 x2)) x1 (5 : Int32) (fX3_within kn kc kr kt kw ff cv x1 x2)) x1 (6 : Int32) (fX3_sizeOf (ff x1.toNatClampNeg) (fX3_within kn kc kr kt kw ff cv x1 x2))))) := (congrFun eg5 cj).trans ((va_up_ne _ _ ne_cj_om).trans hg_cj)
        have hrs : ∀ q : Nat, q ≠ om → q ≠ cj → g5 q = g q := fun q h_om h_cj => (congrFun eg5 q).trans ((va_up_ne _ _ h_om).trans (hrs q h_om h_cj))
        refine lv_lload hx hb dX3_becomes_126 (lv_at hl 0 rfl) ?_
        have hF : fX3_becomes kn kc kr kt kw ff cv x1 x2 = (fX3_within kn kc kr kt kw ff cv x1 x2, fX3_set kn kc kr kt kw ff (fX3_set kn kc kr kt kw ff (fX3_set kn kc kr kt kw ff (fX3_set kn kc kr kt kw ff cv x1 (2 : Int32) (fX3_within kn kc kr kt kw ff cv x1 x2)) x1 (4 : Int32) (fX3_within kn kc kr kt kw ff cv x1 x2)) x1 (5 : Int32) (fX3_within kn kc kr kt kw ff cv x1 x2)) x1 (6 : Int32) (fX3_sizeOf (ff x1.toNatClampNeg) (fX3_within kn kc kr kt kw ff cv x1 x2)), kc + (1 : Int32)) := (by unfold fX3_becomes; rw [if_neg c_1, if_neg c_5, if_neg c_7])
        have hF0 : (fX3_becomes kn kc kr kt kw ff cv x1 x2).1 = fX3_within kn kc kr kt kw ff cv x1 x2 := by rw [hF]
        have hF1 : (fX3_becomes kn kc kr kt kw ff cv x1 x2).2.1 = fX3_set kn kc kr kt kw ff (fX3_set kn kc kr kt kw ff (fX3_set kn kc kr kt kw ff (fX3_set kn kc kr kt kw ff cv x1 (2 : Int32) (fX3_within kn kc kr kt kw ff cv x1 x2)) x1 (4 : Int32) (fX3_within kn kc kr kt kw ff cv x1 x2)) x1 (5 : Int32) (fX3_within kn kc kr kt kw ff cv x1 x2)) x1 (6 : Int32) (fX3_sizeOf (ff x1.toNatClampNeg) (fX3_within kn kc kr kt kw ff cv x1 x2)) := by rw [hF]
        have hF2 : (fX3_becomes kn kc kr kt kw ff cv x1 x2).2.2 = kc + (1 : Int32) := by rw [hF]
        exact W.lret hx hb hr (fun t ht hW => ⟨congrArg (fun z => Outcome.returned (some (Value.long z))) hF0.symm, ⟨g5, WM hP hK hD hKC0 hTC hS ht hW.alike, by rw [hF1, hF2]; exact ⟨hg_om, hg_cj, hrs⟩⟩, hS.F ht⟩) (fun q h => hS.2.2 q h) dX3_becomes_128
