theorem gt_nI {kn kc kr kt : Int32} {kw : Int64} {ff : Nat → Int32} {cv : Nat → Int64} {k : Nat} (hk : k < 8) (x : Int32) {w : Nat} (hx : x = nI w) (hw : w < 7) : fX3_get kn kc kr kt kw ff cv (nI k) x = cv (7 * k + w) := by
  unfold fX3_get
  have h7 : (7 : Int32) = nI 7 := rfl
  rw [hx, h7, pk_mul, nI_add, nI_clamp (by omega)]
def cntB (ff : Nat → Int32) (cv : Nat → Int64) (x1 : Int32) (k : Nat) : Int32 :=
  if x1 = 1 then ff k else if x1 = 2 then fX3_isNought (ff k) (cv (7 * k + 2)) else if cv (7 * k + 2) = cv (7 * k + 0) then 1 else if cv (7 * k + 2) = cv (7 * k + 1) then 1 else 0
def cntM (ff : Nat → Int32) (cv : Nat → Int64) (x1 : Int32) : Nat → Nat
  | 0 => 0
  | n + 1 => if cntB ff cv x1 n = 0 then cntM ff cv x1 n else cntM ff cv x1 n + 1
def fX3_count (kn kc : Int32) (n : Nat) (x1 : Int32) : Int32 :=
  if x1 = 0 then kn else if x1 = 4 then kc else if x1 < 1 then -1 else if x1 ≤ 3 then nI n else -1
theorem hd_X3_count : yX3_count.cls = RX3 ∧ yX3_count.cls ≠ "java/lang/invoke/MethodHandle" ∧ yX3_count.cls ≠ "java/lang/invoke/VarHandle" ∧ (parseMethodDescriptor yX3_count.desc).map (fun d => d.parameters.length) = some 1 := by decide +kernel
theorem hin_X3_X3_count : ∀ w ∈ wsX30, w ∈ wsX3_count := by decide +kernel
set_option maxHeartbeats 1000000 in
set_option maxRecDepth 100000 in
theorem c_X3_count (l : Launch) {cyJ : ClassId} {cyZ : ClassId} (D : va_G) (tys : List (ClassId × FieldType)) (ad : Nat → Nat) (L : List Nat) (g : Nat → va_E) (om fz cj : Nat) (kn : Int32) (kc : Int32) (kr : Int32) (kt : Int32) (kw : Int64) (ff : Nat → Int32) (cv : Nat → Int64) (N : Nat) (x1 : Int32) (hkn : kn = nI N) (hN : N ≤ 8) (hL_om : om ∈ L) (hL_fz : fz ∈ L) (hL_cj : cj ∈ L) (hg_om : g om = .inr (3, [.ref fz, .ref cj, .int kn, .int kc, .int kr, .int kt, .long kw])) (hg_fz : g fz = .inl (cyZ, 8, .inl ff)) (hg_cj : g cj = .inl (cyJ, 56, .inr (.inl cv))) (ne_fz_om : fz ≠ om) (ne_cj_om : cj ≠ om) (htJ : tys[0]? = some (cyJ, .long)) (htZ : tys[1]? = some (cyZ, .boolean)) :
    Met l yX3_count wsX3_count ({ frames := 2, cells := 0, slots := 0, locals := 60 }) (PW D tys ad L g [.ref om, .int x1]) (QE D tys ad L (some (.int (fX3_count kn kc (cntM ff cv x1 N) x1))) (fun g1 => g1 om = .inr (3, [.ref fz, .ref cj, .int kn, .int kc, .int kr, .int (0 : Int32), .long kw]) ∧ ∀ q : Nat, q ≠ om → g1 q = g q)) 0 0 (fun q => q ∈ L) := by
  refine Met.ofW (cc := cX3_count) (maxL := 7) (ret := (some .int)) (by decide) rfl ?_
  intro p e s m args below meth c s₁ B hml hv
  obtain ⟨rfl, ⟨hP, hK, hD0, hKC0, hTC⟩, hXN⟩ := hv
  have hD : va_D (fun q => q ∈ L) (va_pl L g) := we_D (fun _ h => h) hD0
  have hS : va_S (fun q => q ∈ L) s.heap s.heap [] := va_S.rf
  have hx := B.exec
  have hb := B.bytes
  have hr := B.returns
  have hts := atoms_spec (ws := wsX3_count) B.pre
  have hown : s.vm.findClass RX3 = some m.cls := findClass_of_methodNamed B.named
  have hl := lv_entry ([.ref om, .int x1]) (n := 7) (Nat.le_of_ble_eq_true rfl)
  rw [lg_entry_eq]
  generalize (lg_sl ([.ref om, .int x1]) ++ List.replicate (7 - (lg_sl ([.ref om, .int x1])).length) Slot.unset).toArray = ls at hl ⊢
  have hl : lv_has ls 7 [(0, .ref om), (1, .int x1)] := hl
  refine lv_aload_n hx hb dX3_count_0 rfl (lv_at hl 0 rfl) ?_
  refine lv_iconst (v := 0) hx hb dX3_count_1 (by decide) ?_
  refine pg_put (ty := .int) hx hb hts hin_X3_X3_count tyX3 tyX3_ok nmX3 hown hK hP hD hS hL_om hg_om rfl 5 (by decide) (hts (.fieldLink RX3 17 "NeedleBoardModel" "thrown" "I") (by decide +kernel)) rfl (by decide +kernel) rfl rfl (Nat.le_of_ble_eq_true rfl) dX3_count_2 (fun H locs hP hD hS => ?_)
  obtain ⟨g1, eg1⟩ : ∃ z : Nat → va_E, z = va_up g om (.inr (3, [.ref fz, .ref cj, .int kn, .int kc, .int kr, .int (0 : Int32), .long kw])) := ⟨_, rfl⟩
  have hP : va_P D vwCl (va_pl L g1) H := by rw [eg1]; exact hP
  have hD : va_D (fun q => q ∈ L) (va_pl L g1) := by rw [eg1]; exact hD
  have hg_om : g1 om = .inr (3, [.ref fz, .ref cj, .int kn, .int kc, .int kr, .int (0 : Int32), .long kw]) := by rw [eg1]; exact va_up_self _ _ _
  have hg_fz : g1 fz = .inl (cyZ, 8, .inl ff) := (congrFun eg1 fz).trans ((va_up_ne _ _ ne_fz_om).trans hg_fz)
  have hg_cj : g1 cj = .inl (cyJ, 56, .inr (.inl cv)) := (congrFun eg1 cj).trans ((va_up_ne _ _ ne_cj_om).trans hg_cj)
  have hrs : ∀ q : Nat, q ≠ om → g1 q = g q := fun q h_om => (congrFun eg1 q).trans (va_up_ne _ _ h_om)
  refine lv_iload_n hx hb dX3_count_5 rfl (lv_at hl 1 rfl) ?_
  refine lv_if_ne (tgt := 14) hx hb dX3_count_6 (by decide) (fun c_1 => ?_) (fun c_1 => ?_)
  case refine_2 =>
    refine lv_aload_n hx hb dX3_count_9 rfl (lv_at hl 0 rfl) ?_
    refine pg_get hx hb hts hin_X3_X3_count hown hK hP hL_om hg_om rfl 2 (by decide) (hts (.fieldLink RX3 67 "NeedleBoardModel" "needles" "I") (by decide +kernel)) rfl dX3_count_10 ?_
    have hF : fX3_count kn kc (cntM ff cv x1 N) x1 = kn := by unfold fX3_count; rw [if_pos c_1]
    exact W.iret hx hb hr (fun t ht hW => ⟨congrArg (fun z => Outcome.returned (some (Value.int z))) hF.symm, ⟨g1, WM hP hK hD hKC0 hTC hS ht hW.alike, hg_om, hrs⟩, hS.F ht⟩) (fun q h => hS.2.2 q h) dX3_count_13
  refine lv_iload_n hx hb dX3_count_14 rfl (lv_at hl 1 rfl) ?_
  refine lv_iconst (v := 4) hx hb dX3_count_15 (by decide) ?_
  refine lv_icmp_ne (tgt := 24) hx hb dX3_count_16 (by decide) (fun c_2 => ?_) (fun c_2 => ?_)
  case refine_2 =>
    refine lv_aload_n hx hb dX3_count_19 rfl (lv_at hl 0 rfl) ?_
    refine pg_get hx hb hts hin_X3_X3_count hown hK hP hL_om hg_om rfl 3 (by decide) (hts (.fieldLink RX3 92 "NeedleBoardModel" "calls" "I") (by decide +kernel)) rfl dX3_count_20 ?_
    have hF : fX3_count kn kc (cntM ff cv x1 N) x1 = kc := by unfold fX3_count; rw [if_neg c_1, if_pos c_2]
    exact W.iret hx hb hr (fun t ht hW => ⟨congrArg (fun z => Outcome.returned (some (Value.int z))) hF.symm, ⟨g1, WM hP hK hD hKC0 hTC hS ht hW.alike, hg_om, hrs⟩, hS.F ht⟩) (fun q h => hS.2.2 q h) dX3_count_23
  refine lv_iload_n hx hb dX3_count_24 rfl (lv_at hl 1 rfl) ?_
  refine lv_iconst (v := 1) hx hb dX3_count_25 (by decide) ?_
  refine lv_icmp_lt (tgt := 34) hx hb dX3_count_26 (by decide) (fun c_3 => ?_) (fun c_3 => ?_)
  case refine_1 =>
    refine lv_iconst (v := -1) hx hb dX3_count_34 (by decide) ?_
    have hF : fX3_count kn kc (cntM ff cv x1 N) x1 = -1 := by unfold fX3_count; rw [if_neg c_1, if_neg c_2, if_pos c_3]
    exact W.iret hx hb hr (fun t ht hW => ⟨congrArg (fun z => Outcome.returned (some (Value.int z))) hF.symm, ⟨g1, WM hP hK hD hKC0 hTC hS ht hW.alike, hg_om, hrs⟩, hS.F ht⟩) (fun q h => hS.2.2 q h) dX3_count_35
  refine lv_iload_n hx hb dX3_count_29 rfl (lv_at hl 1 rfl) ?_
  refine lv_iconst (v := 3) hx hb dX3_count_30 (by decide) ?_
  refine lv_icmp_le (tgt := 36) hx hb dX3_count_31 (by decide) (fun c_4 => ?_) (fun c_4 => ?_)
  case refine_2 =>
    refine lv_iconst (v := -1) hx hb dX3_count_34 (by decide) ?_
    have hF : fX3_count kn kc (cntM ff cv x1 N) x1 = -1 := by unfold fX3_count; rw [if_neg c_1, if_neg c_2, if_neg c_3, if_neg c_4]
    exact W.iret hx hb hr (fun t ht hW => ⟨congrArg (fun z => Outcome.returned (some (Value.int z))) hF.symm, ⟨g1, WM hP hK hD hKC0 hTC hS ht hW.alike, hg_om, hrs⟩, hS.F ht⟩) (fun q h => hS.2.2 q h) dX3_count_35
  have hF : fX3_count kn kc (cntM ff cv x1 N) x1 = nI (cntM ff cv x1 N) := by unfold fX3_count; rw [if_neg c_1, if_neg c_2, if_neg c_3, if_pos c_4]
  suffices loop : ∀ (n k : Nat) (ls : Array Slot) (a : Int32), k + n = N → a = nI (cntM ff cv x1 k) → lv_has ls 7 [(3, .int (nI k)), (2, .int a), (0, .ref om), (1, .int x1)] → W p l e (headSpec wsX3_count { frames := 2, cells := 0, slots := 0, locals := 60 }).room s m #[.ref om, .int x1] below meth c H locs 0 0 (MQ below (QE D tys ad L (some (.int (fX3_count kn kc (cntM ff cv x1 N) x1))) (fun g1 => g1 om = .inr (3, [.ref fz, .ref cj, .int kn, .int kc, .int kr, .int (0 : Int32), .long kw]) ∧ ∀ q : Nat, q ≠ om → g1 q = g q)) #[.ref om, .int x1] s 0 0 (fun q => q ∈ L)) (F0 m 40 ls []) by
    refine lv_iconst (v := 0) hx hb dX3_count_36 (by decide) ?_
    refine lv_istore_n (lv' := [(2, .int 0), (0, .ref om), (1, .int x1)]) hx hb dX3_count_37 rfl hl (by decide) rfl (fun ls hl => ?_)
    refine lv_iconst (v := 0) hx hb dX3_count_38 (by decide) ?_
    refine lv_istore_n (lv' := [(3, .int 0), (2, .int 0), (0, .ref om), (1, .int x1)]) hx hb dX3_count_39 rfl hl (by decide) rfl (fun ls hl => ?_)
    exact loop N 0 ls 0 (Nat.zero_add N) rfl hl
  intro n
  induction n with
  | zero =>
    intro k ls a hk ha hl
    have hk : k = N := by omega
    subst hk
    refine lv_iload_n hx hb dX3_count_40 rfl (lv_at hl 0 rfl) ?_
    refine lv_aload_n hx hb dX3_count_41 rfl (lv_at hl 2 rfl) ?_
    refine pg_get hx hb hts hin_X3_X3_count hown hK hP hL_om hg_om rfl 2 (by decide) (hts (.fieldLink RX3 67 "NeedleBoardModel" "needles" "I") (by decide +kernel)) rfl dX3_count_42 ?_
    refine lv_icmp_ge (tgt := 139) hx hb dX3_count_45 (by decide) (fun c_5 => ?_) (fun c_5 => ?_)
    · refine lv_iload_n hx hb dX3_count_139 rfl (lv_at hl 1 rfl) ?_
      exact W.iret hx hb hr (fun t ht hW => ⟨congrArg (fun z => Outcome.returned (some (Value.int z))) (ha.trans hF.symm), ⟨g1, WM hP hK hD hKC0 hTC hS ht hW.alike, hg_om, hrs⟩, hS.F ht⟩) (fun q h => hS.2.2 q h) dX3_count_140
    · exact absurd (by rw [hkn]; exact Int32.le_refl _) c_5
  | succ n ih =>
    intro k ls a hk ha hl
    have hk8 : k < 8 := by omega
    have hkk : (nI k).toNatClampNeg = k := nI_clamp (by omega)
    refine lv_iload_n hx hb dX3_count_40 rfl (lv_at hl 0 rfl) ?_
    refine lv_aload_n hx hb dX3_count_41 rfl (lv_at hl 2 rfl) ?_
    refine pg_get hx hb hts hin_X3_X3_count hown hK hP hL_om hg_om rfl 2 (by decide) (hts (.fieldLink RX3 67 "NeedleBoardModel" "needles" "I") (by decide +kernel)) rfl dX3_count_42 ?_
    refine lv_icmp_ge (tgt := 139) hx hb dX3_count_45 (by decide) (fun c_5 => ?_) (fun c_5 => ?_)
    · exact absurd c_5 (by rw [hkn]; exact nI_ge (a := k) (b := N) (by omega) (by omega))
    refine lv_aload_n hx hb dX3_count_48 rfl (lv_at hl 2 rfl) ?_
    refine lv_iload_n hx hb dX3_count_49 rfl (lv_at hl 0 rfl) ?_
    refine lv_iconst (v := 2) hx hb dX3_count_50 (by decide) ?_
    refine rc_V (b := om) (r := .long (fX3_get kn kc kr 0 kw ff cv (nI k) (2 : Int32))) (As := [.int (nI k), .int (2 : Int32)]) (rest := []) ⟨hx, hb, hml, hown, hts⟩ (c_X3_get l D tys ad L g1 om fz cj kn kc kr 0 kw ff cv (nI k) (2 : Int32) hL_om hL_fz hL_cj hg_om hg_fz hg_cj htJ htZ (ix_in (nI_in (by omega) (by decide)) (by unfold vp_in; decide))) (cwV 2 hts gX3_count_X3_get rfl rfl rfl hd_X3_get ⟨(Nat.le_of_ble_eq_true rfl), (Nat.le_of_ble_eq_true rfl)⟩) (pg_recv hK hP hL_om hg_om rfl) (fun U hU hvm => WM hP hK hD hKC0 hTC hS hU hvm) hXN rfl hl.1 rfl (lv_room (Nat.le_of_ble_eq_true rfl)) dX3_count_51 ⟨(Nat.le_of_ble_eq_true rfl), (Nat.le_of_ble_eq_true rfl)⟩ ?_
    rw [gt_nI hk8 (2) (w := 2) rfl (by decide)]
    refine lv_lstore (lv' := [(4, .long (cv (7 * k + 2))), (3, .int (nI k)), (2, .int a), (0, .ref om), (1, .int x1)]) hx hb dX3_count_54 hl (by decide) rfl (fun ls hl => ?_)
    suffices tail : ∀ b : Int32, b = cntB ff cv x1 k → W p l e (headSpec wsX3_count { frames := 2, cells := 0, slots := 0, locals := 60 }).room s m #[.ref om, .int x1] below meth c H locs 0 0 (MQ below (QE D tys ad L (some (.int (fX3_count kn kc (cntM ff cv x1 N) x1))) (fun g1 => g1 om = .inr (3, [.ref fz, .ref cj, .int kn, .int kc, .int kr, .int (0 : Int32), .long kw]) ∧ ∀ q : Nat, q ≠ om → g1 q = g q)) #[.ref om, .int x1] s 0 0 (fun q => q ∈ L)) (F0 m 118 ls [.int b]) by
      refine lv_iload_n hx hb dX3_count_56 rfl (lv_at hl 4 rfl) ?_
      refine lv_iconst (v := 1) hx hb dX3_count_57 (by decide) ?_
      refine lv_icmp_ne (tgt := 70) hx hb dX3_count_58 (by decide) (fun c_6 => ?_) (fun c_6 => ?_)
      case refine_2 =>
        refine lv_aload_n hx hb dX3_count_61 rfl (lv_at hl 3 rfl) ?_
        refine pg_get hx hb hts hin_X3_X3_count hown hK hP hL_om hg_om rfl 0 (by decide) (hts (.fieldLink RX3 7 "NeedleBoardModel" "isFine" "[Z") (by decide +kernel)) rfl dX3_count_62 ?_
        refine lv_iload_n hx hb dX3_count_65 rfl (lv_at hl 1 rfl) ?_
        refine pg_zald hx hb hK hP 1 hL_fz hg_fz htZ (nI_in (by omega) (by decide)) dX3_count_66 ?_
        rw [hkk]
        refine lv_goto (tgt := 118) hx hb dX3_count_67 (by decide) ?_
        exact tail _ (by unfold cntB; rw [if_pos c_6])
      refine lv_iload_n hx hb dX3_count_70 rfl (lv_at hl 4 rfl) ?_
      refine lv_iconst (v := 2) hx hb dX3_count_71 (by decide) ?_
      refine lv_icmp_ne (tgt := 89) hx hb dX3_count_72 (by decide) (fun c_7 => ?_) (fun c_7 => ?_)
      case refine_2 =>
        refine lv_aload_n hx hb dX3_count_75 rfl (lv_at hl 3 rfl) ?_
        refine pg_get hx hb hts hin_X3_X3_count hown hK hP hL_om hg_om rfl 0 (by decide) (hts (.fieldLink RX3 7 "NeedleBoardModel" "isFine" "[Z") (by decide +kernel)) rfl dX3_count_76 ?_
        refine lv_iload_n hx hb dX3_count_79 rfl (lv_at hl 1 rfl) ?_
        refine pg_zald hx hb hK hP 1 hL_fz hg_fz htZ (nI_in (by omega) (by decide)) dX3_count_80 ?_
        rw [hkk]
        refine lv_lload hx hb dX3_count_81 (lv_at hl 0 rfl) ?_
        refine pc_0 (As := [.int (ff k), .long (cv (7 * k + 2))]) (rest := []) (r := .int (fX3_isNought (ff k) (cv (7 * k + 2)))) ⟨hx, hb, hml, hown, hts⟩ (c_X3_isNought l (ff k) (cv (7 * k + 2))) (va_cwS 2 hts gX3_count_X3_isNought rfl rfl rfl hd_X3_isNought ⟨(Nat.le_of_ble_eq_true rfl), (Nat.le_of_ble_eq_true rfl)⟩) rfl hl.1 rfl (lv_room (Nat.le_of_ble_eq_true rfl)) dX3_count_83 ⟨(Nat.le_of_ble_eq_true rfl), (Nat.le_of_ble_eq_true rfl)⟩ ?_
        refine lv_goto (tgt := 118) hx hb dX3_count_86 (by decide) ?_
        exact tail _ (by unfold cntB; rw [if_neg c_6, if_pos c_7])
      refine lv_lload hx hb dX3_count_89 (lv_at hl 0 rfl) ?_
      refine lv_aload_n hx hb dX3_count_91 rfl (lv_at hl 3 rfl) ?_
      refine lv_iload_n hx hb dX3_count_92 rfl (lv_at hl 1 rfl) ?_
      refine lv_iconst (v := 0) hx hb dX3_count_93 (by decide) ?_
      refine rc_V (b := om) (r := .long (fX3_get kn kc kr 0 kw ff cv (nI k) (0 : Int32))) (As := [.int (nI k), .int (0 : Int32)]) (rest := [.long (cv (7 * k + 2))]) ⟨hx, hb, hml, hown, hts⟩ (c_X3_get l D tys ad L g1 om fz cj kn kc kr 0 kw ff cv (nI k) (0 : Int32) hL_om hL_fz hL_cj hg_om hg_fz hg_cj htJ htZ (ix_in (nI_in (by omega) (by decide)) (by unfold vp_in; decide))) (cwV 2 hts gX3_count_X3_get rfl rfl rfl hd_X3_get ⟨(Nat.le_of_ble_eq_true rfl), (Nat.le_of_ble_eq_true rfl)⟩) (pg_recv hK hP hL_om hg_om rfl) (fun U hU hvm => WM hP hK hD hKC0 hTC hS hU hvm) hXN rfl hl.1 rfl (lv_room (Nat.le_of_ble_eq_true rfl)) dX3_count_94 ⟨(Nat.le_of_ble_eq_true rfl), (Nat.le_of_ble_eq_true rfl)⟩ ?_
      rw [gt_nI hk8 (0) (w := 0) rfl (by decide)]
      refine pl_eq (tgt := 113) hx hb dX3_count_97 dX3_count_98 (by decide) (fun c_8 => ?_) (fun c_8 => ?_)
      · refine lv_iconst (v := 1) hx hb dX3_count_113 (by decide) ?_
        refine lv_goto (tgt := 118) hx hb dX3_count_114 (by decide) ?_
        exact tail _ (by unfold cntB; rw [if_neg c_6, if_neg c_7, if_pos c_8])
      refine lv_lload hx hb dX3_count_101 (lv_at hl 0 rfl) ?_
      refine lv_aload_n hx hb dX3_count_103 rfl (lv_at hl 3 rfl) ?_
      refine lv_iload_n hx hb dX3_count_104 rfl (lv_at hl 1 rfl) ?_
      refine lv_iconst (v := 1) hx hb dX3_count_105 (by decide) ?_
      refine rc_V (b := om) (r := .long (fX3_get kn kc kr 0 kw ff cv (nI k) (1 : Int32))) (As := [.int (nI k), .int (1 : Int32)]) (rest := [.long (cv (7 * k + 2))]) ⟨hx, hb, hml, hown, hts⟩ (c_X3_get l D tys ad L g1 om fz cj kn kc kr 0 kw ff cv (nI k) (1 : Int32) hL_om hL_fz hL_cj hg_om hg_fz hg_cj htJ htZ (ix_in (nI_in (by omega) (by decide)) (by unfold vp_in; decide))) (cwV 2 hts gX3_count_X3_get rfl rfl rfl hd_X3_get ⟨(Nat.le_of_ble_eq_true rfl), (Nat.le_of_ble_eq_true rfl)⟩) (pg_recv hK hP hL_om hg_om rfl) (fun U hU hvm => WM hP hK hD hKC0 hTC hS hU hvm) hXN rfl hl.1 rfl (lv_room (Nat.le_of_ble_eq_true rfl)) dX3_count_106 ⟨(Nat.le_of_ble_eq_true rfl), (Nat.le_of_ble_eq_true rfl)⟩ ?_
      rw [gt_nI hk8 (1) (w := 1) rfl (by decide)]
      refine pl_ne (tgt := 117) hx hb dX3_count_109 dX3_count_110 (by decide) (fun c_9 => ?_) (fun c_9 => ?_)
      · refine lv_iconst (v := 0) hx hb dX3_count_117 (by decide) ?_
        exact tail _ (by unfold cntB; rw [if_neg c_6, if_neg c_7, if_neg c_8, if_neg c_9])
      · refine lv_iconst (v := 1) hx hb dX3_count_113 (by decide) ?_
        refine lv_goto (tgt := 118) hx hb dX3_count_114 (by decide) ?_
        exact tail _ (by unfold cntB; rw [if_neg c_6, if_neg c_7, if_neg c_8, if_pos c_9])
    intro b hb9
    refine lv_istore (lv' := [(6, .int b), (4, .long (cv (7 * k + 2))), (3, .int (nI k)), (2, .int a), (0, .ref om), (1, .int x1)]) hx hb dX3_count_118 hl (by decide) rfl (fun ls hl => ?_)
    refine lv_iload_n hx hb dX3_count_120 rfl (lv_at hl 3 rfl) ?_
    refine lv_iload hx hb dX3_count_121 (lv_at hl 0 rfl) ?_
    refine lv_if_eq (tgt := 130) hx hb dX3_count_123 (by decide) (fun c_6 => ?_) (fun c_6 => ?_)
    · refine lv_iconst (v := 0) hx hb dX3_count_130 (by decide) ?_
      refine lv_iadd hx hb dX3_count_131 ?_
      refine lv_istore_n (lv' := [(2, .int (a + 0)), (6, .int b), (4, .long (cv (7 * k + 2))), (3, .int (nI k)), (0, .ref om), (1, .int x1)]) hx hb dX3_count_132 rfl hl (by decide) rfl (fun ls hl => ?_)
      refine lv_iinc (v := nI (k + 1)) (lv' := [(3, .int (nI (k + 1))), (2, .int (a + 0)), (6, .int b), (4, .long (cv (7 * k + 2))), (0, .ref om), (1, .int x1)]) hx hb dX3_count_133 hl (k := 3) rfl (nI_1 k) (by decide) rfl (fun ls hl => ?_)
      refine lv_goto (tgt := 40) hx hb dX3_count_136 (by decide) ?_
      exact ih (k + 1) ls (a + 0) (by omega) (by rw [Int32.add_zero, ha, cntM, if_pos (hb9.symm.trans c_6)]) (lv_sub hl [0, 1, 4, 5] rfl)
    · refine lv_iconst (v := 1) hx hb dX3_count_126 (by decide) ?_
      refine lv_goto (tgt := 131) hx hb dX3_count_127 (by decide) ?_
      refine lv_iadd hx hb dX3_count_131 ?_
      refine lv_istore_n (lv' := [(2, .int (a + 1)), (6, .int b), (4, .long (cv (7 * k + 2))), (3, .int (nI k)), (0, .ref om), (1, .int x1)]) hx hb dX3_count_132 rfl hl (by decide) rfl (fun ls hl => ?_)
      refine lv_iinc (v := nI (k + 1)) (lv' := [(3, .int (nI (k + 1))), (2, .int (a + 1)), (6, .int b), (4, .long (cv (7 * k + 2))), (0, .ref om), (1, .int x1)]) hx hb dX3_count_133 hl (k := 3) rfl (nI_1 k) (by decide) rfl (fun ls hl => ?_)
      refine lv_goto (tgt := 40) hx hb dX3_count_136 (by decide) ?_
      exact ih (k + 1) ls (a + 1) (by omega) (by rw [ha, cntM, if_neg (fun z => c_6 (hb9.trans z))]; exact nI_1 _) (lv_sub hl [0, 1, 4, 5] rfl)
