/-! constructors that make arrays -/
def QX (D : va_G) (ad : Nat → Nat) (L : List Nat) (P : List Nat → List (ClassId × FieldType) → (Nat → va_E) → Prop) : Array Value → State → Outcome → State → Prop := fun _ st o t => o = .returned none ∧ (∃ (L1 : List Nat) (tys1 : List (ClassId × FieldType)) (g1 : Nat → va_E), WW D tys1 ad L1 g1 t ∧ P L1 tys1 g1 ∧ ∀ q ∈ L1, PA L st.heap.size q) ∧ va_F (fun q => q ∈ L) st t
def PWq (D : va_G) (tys : List (ClassId × FieldType)) (ad : Nat → Nat) (L : List Nat) (g : Nat → va_E) (sz : Nat) (av : List Value) : Array Value → State → Prop := fun v U => v = av.toArray ∧ WW D tys ad L g U ∧ XN U ∧ U.heap.size = sz ∧ va_AO RX1 U
theorem PWq.blind (D : va_G) (tys : List (ClassId × FieldType)) (ad : Nat → Nat) (L : List Nat) (g : Nat → va_E) (sz : Nat) (av : List Value) : FrameBlind (PWq D tys ad L g sz av) := fun a U f mk h => ⟨h.1, h.2.1.calling _ _ _, XN.warm (s := U) (U := U.calling f mk a) (State.WarmedH.refl U) h.2.2.1, h.2.2.2.1, va_AO.moved (u := U) (U := U.calling f mk a) (State.WarmedH.refl U).alike h.2.2.2.2⟩
section MX
variable {p : Program} {l : Launch} {e : Env} {R : Room} {s : State} {m : MethodId} {args : Array Value} {below : List Frame} {meth : Method} {c : Code} {H : Heap} {locs : List Loc} {cells slots : Nat} {Q : State → Prop}
variable {cc : ByteArray} {pc : Nat} {ls : Array Slot} {rest st0 : List Value} {A : Nat → Prop} {ad : Nat → Nat} {D : va_G} {tys : List (ClassId × FieldType)} {L : List Nat} {g : Nat → va_E} {a : Nat}
variable {y : MethodName} {bytes : ByteArray} {maxL nL n index : Nat} {ws Ts : List Cond} {rm : Room} {own C : String} {As : List Value}
theorem mx_I {b mc ms : Nat} {P : List Nat → List (ClassId × FieldType) → (Nat → va_E) → Prop} {Pc : Array Value → State → Prop} (S : CallFix p m c cc nL s args Ts own) (hM : Met l y ws rm Pc (QX D ad L P) mc ms (PA L H.size)) (cw : CallB R s args own index y bytes maxL none ws rm mc ms n ∧ y.name = "<init>" ∧ (Cond.instanceMethod y).before args s = true)
    (hp : PreS s H Pc (.ref b :: As)) (hS : va_S A s.heap H locs) (hLA : ∀ q ∈ L, A q) (hA : ∀ q, s.heap.size ≤ q → A q) (hn : As.length = n) (hl : ls.size = nL) (hst : st0 = As.reverse ++ .ref b :: rest) (hW : 2 * (F0 m pc ls rest).monitorRoom + (rest.map fun v => v.category).sum ≤ 8)
    (hdg : decode cc pc = .ok (.invokespecial index, 3)) (hf : cells + mc ≤ R.cells ∧ slots + ms ≤ R.slots)
    (kk : ∀ (L1 : List Nat) (tys1 : List (ClassId × FieldType)) (g1 : Nat → va_E) (H1 : Heap) (locs1 : List Loc), P L1 tys1 g1 → (∀ q ∈ L1, A q) → va_K D vwCl tys1 s → va_P D vwCl (va_pl L1 g1) H1 → va_D A (va_pl L1 g1) → va_S A s.heap H1 locs1 → W p l e R s m args below meth c H1 locs1 (cells + mc) (slots + ms) Q (F0 m (pc + 3) ls rest)) : W p l e R s m args below meth c H locs cells slots Q (F0 m pc ls st0) := by
  subst hst
  intro T hT X
  obtain ⟨v, st₀, t, T', L', h0, X', hL', e1, e2, ⟨hv, ⟨L1, tys1, g1, hw, hp1, hq1⟩, hF⟩, st⟩ := va_runI (g := F0 m pc ls (As.reverse ++ .ref b :: rest)) S hM cw hp rfl hn hl rfl hW hdg hf T hT X
  cases hv
  have hfA : ∀ q, PA L H.size q → A q := fun q h => h.elim (hLA q) (fun h => hA q (Nat.le_trans hS.1 h))
  obtain ⟨k1, k2, k3⟩ := vx_keep (free := PA L H.size) h0 e1 hS (fun q _ h => hLA q h) hfA hL' hF
  have hq2 : ∀ q ∈ L1, A q := fun q h => hfA q (by have := hq1 q h; rw [h0] at this; exact this)
  obtain ⟨t2, a1, b1⟩ := kk L1 tys1 g1 T'.heap (locs ++ L') hp1 hq2 (va_K.moved (by rw [← e2]; exact X'.warmed.alike.symm) hw.2.1) (by rw [e1]; exact hw.1) (hw.2.2.1.weaken (fun _ _ hk _ => hq2 _ (pl_in hk))) k3 T' rfl X'
  exact ⟨t2, st t2 a1, b1⟩
end MX
theorem hin_X2_X2_init : ∀ w ∈ wsX20, w ∈ wsX2_init := by decide +kernel
theorem hin_X3_X3_init : ∀ w ∈ wsX30, w ∈ wsX3_init := by decide +kernel
def arrN (cA : ClassId) : va_E := .inl (cA, 8, .inr (.inr (.inr (.inr (fun _ => none)))))
set_option maxHeartbeats 1000000 in
set_option maxRecDepth 100000 in
theorem c_X2_init (l : Launch) (D : va_G) (tys : List (ClassId × FieldType)) (ad : Nat → Nat) (L : List Nat) (g : Nat → va_E) (sz : Nat) (ob : Nat) (hL_ob : ob ∈ L) (hg_ob : g ob = .inr (2, [.null, .int 0, .int 0, .long 0, .int 0])) : Met l yX2_init wsX2_init ({ frames := 1, cells := 1, slots := 8, locals := 22 }) (PWq D tys ad L g sz [.ref ob])
    (QX D ad L (fun L1 tys1 g1 => ∃ (q : Nat) (cA : ClassId), L1 = L ++ [q] ∧ tys1 = tys ++ [(cA, .object RX1)] ∧ q ∉ L ∧ g1 ob = .inr (2, [.ref q, .int 0, .int 0, .long 0, .int 0]) ∧ g1 q = arrN cA ∧ ∀ q' : Nat, q' ≠ q → q' ≠ ob → g1 q' = g q')) 1 8 (PA L sz) := by
  refine Met.ofW (cc := cX2_init) (maxL := 1) (ret := none) (by decide) rfl ?_
  intro p e s m args below meth c s₁ B hml hv
  obtain ⟨rfl, ⟨hP, hK, hD, hKC0, hTC⟩, hXN, rfl, hAO⟩ := hv
  have hin : meth.name = "<init>" := (name_of_methodNamed B.named B.method).1
  have hS : va_S (PA L s.heap.size) s.heap s.heap [] := va_S.rf
  have hx := B.exec
  have hb := B.bytes
  have hr := B.returns
  have hts := atoms_spec (ws := wsX2_init) B.pre
  have hown : s.vm.findClass RX2 = some m.cls := findClass_of_methodNamed B.named
  have hl := lv_entry ([.ref ob]) (n := 1) (Nat.le_of_ble_eq_true rfl)
  rw [lg_entry_eq]
  generalize (lg_sl ([.ref ob]) ++ List.replicate (1 - (lg_sl ([.ref ob])).length) Slot.unset).toArray = ls at hl ⊢
  have hl : lv_has ls 1 [(0, .ref ob)] := hl
  refine lv_aload_n hx hb dX2_init_0 rfl (lv_at hl 0 rfl) ?_
  refine W.objInit hx hb hown (hts (.methodLink RX2 1 objectInit) (by decide +kernel)) (hts (.instanceMethod objectInit) (by decide +kernel)) (hts _ (List.mem_cons_of_mem _ (List.mem_append_left _ (List.mem_of_getElem? (i := 2) rfl)))) rfl (by rw [hml]; exact hl.1) rfl dX2_init_1 (Nat.le_of_ble_eq_true rfl) (Nat.le_of_ble_eq_true rfl) ?_
  refine W.eq (g2 := F0 m 4 ls []) rfl ?_
  refine lv_aload_n hx hb dX2_init_4 rfl (lv_at hl 0 rfl) ?_
  refine lv_bipush (v := 8) hx hb dX2_init_5 (by decide) ?_
  refine pg_newq (C := RX1) (N' := 8) hx hb hown (hts (.classLink RX2 9 RX1) (by decide +kernel)) hAO hK hP hD hS (fun q h => Or.inr h) (by decide) (by decide) (by decide) (Nat.le_of_ble_eq_true rfl) (Nat.le_of_ble_eq_true rfl) dX2_init_7 (fun q cA H hqL hAq hK hP hD hS => ?_)
  obtain ⟨g1, eg1⟩ : ∃ z : Nat → va_E, z = va_up g q (arrN cA) := ⟨_, rfl⟩
  have hP : va_P D vwCl (va_pl (L ++ [q]) g1) H := by rw [eg1]; exact hP
  have hD : va_D (PA L s.heap.size) (va_pl (L ++ [q]) g1) := by rw [eg1]; exact hD
  have hg_q : g1 q = arrN cA := by rw [eg1]; exact va_up_self _ _ _
  have hrs : ∀ q' : Nat, q' ≠ q → g1 q' = g q' := fun q' h => (congrFun eg1 q').trans (va_up_ne _ _ h)
  have hLA : ∀ z ∈ L ++ [q], PA L s.heap.size z := fun z hz => (List.mem_append.mp hz).elim (fun h => Or.inl h) (fun h => by rw [List.mem_singleton.mp h]; exact hAq)
  have hL_ob' : ob ∈ L ++ [q] := List.mem_append_left _ hL_ob
  have ne_ob_q : ob ≠ q := fun h => hqL (h ▸ hL_ob)
  have hg_ob : g1 ob = .inr (2, [.null, .int 0, .int 0, .long 0, .int 0]) := (hrs ob ne_ob_q).trans hg_ob
  refine pg_putF (ty := .array (.object RX1)) hx hb hts hin_X2_X2_init tyX2 tyX2_ok nmX2 hown hK hP hD hS hL_ob' hg_ob rfl 0 (by decide) (hts (.fieldLink RX2 11 "NeedleBoard" "needles" "[LNeedleBoard$Needle;") (by decide +kernel)) rfl hin rfl (by decide +kernel) rfl rfl (Nat.le_of_ble_eq_true rfl) dX2_init_10 (fun H locs hP hD hS => ?_)
  obtain ⟨g2, eg2⟩ : ∃ z : Nat → va_E, z = va_up g1 ob (.inr (2, [.ref q, .int 0, .int 0, .long 0, .int 0])) := ⟨_, rfl⟩
  have hP : va_P D vwCl (va_pl (L ++ [q]) g2) H := by rw [eg2]; exact hP
  have hD : va_D (PA L s.heap.size) (va_pl (L ++ [q]) g2) := by rw [eg2]; exact hD
  have hr2 : ∀ q' : Nat, q' ≠ ob → g2 q' = g1 q' := fun q' h => (congrFun eg2 q').trans (va_up_ne _ _ h)
  exact W.vret hx hb hr (fun t ht hW => ⟨rfl, ⟨L ++ [q], tys ++ [(cA, .object RX1)], g2, WW.mk hP hK hD hKC0 hTC hS hLA (fun z h => Or.inr h) ht hW.alike, ⟨q, cA, rfl, rfl, hqL, by rw [eg2]; exact va_up_self _ _ _, (hr2 q (Ne.symm ne_ob_q)).trans hg_q, fun q' h1 h2 => (hr2 q' h2).trans (hrs q' h1)⟩, hLA⟩, PA.F hS ht⟩) (fun q h => hS.2.2 q h) dX2_init_13
def arrZ (cA : ClassId) : va_E := .inl (cA, 8, .inl (fun _ => 0))
def arrJ (cA : ClassId) (n : Nat) : va_E := .inl (cA, n, .inr (.inl (fun _ => 0)))
theorem ha_Z (n : Nat) (cA : ClassId) : vp_cell cA (n, .inl (fun _ => 0)) = arrV cA n (fun _ => defaultValue .boolean) := vp_cell_i cA n (fun _ => 0)
theorem ha_J (n : Nat) (cA : ClassId) : vp_cell cA (n, .inr (.inl (fun _ => 0))) = arrV cA n (fun _ => defaultValue .long) := vp_cell_l cA n (fun _ => 0)
set_option maxHeartbeats 1000000 in
set_option maxRecDepth 100000 in
theorem c_X3_init (l : Launch) (D : va_G) (tys : List (ClassId × FieldType)) (ad : Nat → Nat) (L : List Nat) (g : Nat → va_E) (sz : Nat) (om : Nat) (hL_om : om ∈ L) (hg_om : g om = .inr (3, [.null, .null, .int 0, .int 0, .int 0, .int 0, .long 0])) : Met l yX3_init wsX3_init ({ frames := 1, cells := 2, slots := 64, locals := 22 }) (PWn D tys ad L g sz [.ref om])
    (QX D ad L (fun L1 tys1 g1 => ∃ (q r : Nat) (cA cB : ClassId), L1 = L ++ [q] ++ [r] ∧ tys1 = tys ++ [(cA, .boolean)] ++ [(cB, .long)] ∧ q ∉ L ∧ r ∉ L ++ [q] ∧ g1 om = .inr (3, [.ref q, .ref r, .int 0, .int 0, .int 0, .int 0, .long 0]) ∧ g1 q = arrZ cA ∧ g1 r = arrJ cB 56 ∧ ∀ q' : Nat, q' ≠ q → q' ≠ r → q' ≠ om → g1 q' = g q')) 2 64 (PA L sz) := by
  refine Met.ofW (cc := cX3_init) (maxL := 1) (ret := none) (by decide) rfl ?_
  intro p e s m args below meth c s₁ B hml hv
  obtain ⟨rfl, ⟨hP, hK, hD, hKC0, hTC⟩, hXN, rfl⟩ := hv
  have hin : meth.name = "<init>" := (name_of_methodNamed B.named B.method).1
  have hS : va_S (PA L s.heap.size) s.heap s.heap [] := va_S.rf
  have hx := B.exec
  have hb := B.bytes
  have hr := B.returns
  have hts := atoms_spec (ws := wsX3_init) B.pre
  have hown : s.vm.findClass RX3 = some m.cls := findClass_of_methodNamed B.named
  have hl := lv_entry ([.ref om]) (n := 1) (Nat.le_of_ble_eq_true rfl)
  rw [lg_entry_eq]
  generalize (lg_sl ([.ref om]) ++ List.replicate (1 - (lg_sl ([.ref om])).length) Slot.unset).toArray = ls at hl ⊢
  have hl : lv_has ls 1 [(0, .ref om)] := hl
  refine lv_aload_n hx hb dX3_init_0 rfl (lv_at hl 0 rfl) ?_
  refine W.objInit hx hb hown (hts (.methodLink RX3 1 objectInit) (by decide +kernel)) (hts (.instanceMethod objectInit) (by decide +kernel)) (hts _ (List.mem_cons_of_mem _ (List.mem_append_left _ (List.mem_of_getElem? (i := 2) rfl)))) rfl (by rw [hml]; exact hl.1) rfl dX3_init_1 (Nat.le_of_ble_eq_true rfl) (Nat.le_of_ble_eq_true rfl) ?_
  refine W.eq (g2 := F0 m 4 ls []) rfl ?_
  refine lv_aload_n hx hb dX3_init_4 rfl (lv_at hl 0 rfl) ?_
  refine lv_bipush (v := 8) hx hb dX3_init_5 (by decide) ?_
  refine pg_newa (atype := .boolean) (n := 8) (ty := .boolean) (N' := 8) (a0 := (8, .inl (fun _ => 0))) hx hb (hts (.arrayClass .boolean) (by decide +kernel)) rfl hK hP hD hS (fun q h => Or.inr h) (ha_Z 8) (by decide) (by decide) (by decide +kernel) (Nat.le_of_ble_eq_true rfl) (Nat.le_of_ble_eq_true rfl) dX3_init_7 (fun q cA H hqL hAq hK hP hD hS => ?_)
  obtain ⟨g1, eg1⟩ : ∃ z : Nat → va_E, z = va_up g q (arrZ cA) := ⟨_, rfl⟩
  have hP : va_P D vwCl (va_pl (L ++ [q]) g1) H := by rw [eg1]; exact hP
  have hD : va_D (PA L s.heap.size) (va_pl (L ++ [q]) g1) := by rw [eg1]; exact hD
  have hg_q : g1 q = arrZ cA := by rw [eg1]; exact va_up_self _ _ _
  have hrs : ∀ q' : Nat, q' ≠ q → g1 q' = g q' := fun q' h => (congrFun eg1 q').trans (va_up_ne _ _ h)
  have hLA : ∀ z ∈ L ++ [q], PA L s.heap.size z := fun z hz => (List.mem_append.mp hz).elim (fun h => Or.inl h) (fun h => by rw [List.mem_singleton.mp h]; exact hAq)
  have hL_om' : om ∈ L ++ [q] := List.mem_append_left _ hL_om
  have ne_om_q : om ≠ q := fun h => hqL (h ▸ hL_om)
  have hg_om : g1 om = .inr (3, [.null, .null, .int 0, .int 0, .int 0, .int 0, .long 0]) := (hrs om ne_om_q).trans hg_om
  refine pg_putF (ty := .array .boolean) hx hb hts hin_X3_X3_init tyX3 tyX3_ok nmX3 hown hK hP hD hS hL_om' hg_om rfl 0 (by decide) (hts (.fieldLink RX3 7 "NeedleBoardModel" "isFine" "[Z") (by decide +kernel)) rfl hin rfl (by decide +kernel) rfl rfl (Nat.le_of_ble_eq_true rfl) dX3_init_9 (fun H locs hP hD hS => ?_)
  obtain ⟨g2, eg2⟩ : ∃ z : Nat → va_E, z = va_up g1 om (.inr (3, [.ref q, .null, .int 0, .int 0, .int 0, .int 0, .long 0])) := ⟨_, rfl⟩
  have hP : va_P D vwCl (va_pl (L ++ [q]) g2) H := by rw [eg2]; exact hP
  have hD : va_D (PA L s.heap.size) (va_pl (L ++ [q]) g2) := by rw [eg2]; exact hD
  have hr2 : ∀ q' : Nat, q' ≠ om → g2 q' = g1 q' := fun q' h => (congrFun eg2 q').trans (va_up_ne _ _ h)
  have hg_om : g2 om = .inr (3, [.ref q, .null, .int 0, .int 0, .int 0, .int 0, .long 0]) := by rw [eg2]; exact va_up_self _ _ _
  have hg_q := (hr2 q (Ne.symm ne_om_q)).trans hg_q
  refine lv_aload_n hx hb dX3_init_12 rfl (lv_at hl 0 rfl) ?_
  refine lv_bipush (v := 56) hx hb dX3_init_13 (by decide) ?_
  refine pg_newa (atype := .long) (n := 56) (ty := .long) (N' := 56) (a0 := (56, .inr (.inl (fun _ => 0)))) hx hb (hts (.arrayClass .long) (by decide +kernel)) rfl hK hP hD hS (fun q h => Or.inr h) (ha_J 56) (by decide) (by decide) (by decide +kernel) (Nat.le_of_ble_eq_true rfl) (Nat.le_of_ble_eq_true rfl) dX3_init_15 (fun r cB H hrL hAr hK hP hD hS => ?_)
  obtain ⟨g3, eg3⟩ : ∃ z : Nat → va_E, z = va_up g2 r (arrJ cB 56) := ⟨_, rfl⟩
  have hP : va_P D vwCl (va_pl (L ++ [q] ++ [r]) g3) H := by rw [eg3]; exact hP
  have hD : va_D (PA L s.heap.size) (va_pl (L ++ [q] ++ [r]) g3) := by rw [eg3]; exact hD
  have hg_r : g3 r = arrJ cB 56 := by rw [eg3]; exact va_up_self _ _ _
  have hr3 : ∀ q' : Nat, q' ≠ r → g3 q' = g2 q' := fun q' h => (congrFun eg3 q').trans (va_up_ne _ _ h)
  have hLA : ∀ z ∈ L ++ [q] ++ [r], PA L s.heap.size z := fun z hz => (List.mem_append.mp hz).elim (fun h => hLA z h) (fun h => by rw [List.mem_singleton.mp h]; exact hAr)
  have hL_q' : q ∈ L ++ [q] := List.mem_append_right _ List.mem_cons_self
  have ne_om_r : om ≠ r := fun h => hrL (h ▸ hL_om')
  have ne_q_r : q ≠ r := fun h => hrL (h ▸ hL_q')
  have hL_om' : om ∈ L ++ [q] ++ [r] := List.mem_append_left _ hL_om'
  have hg_om : g3 om = .inr (3, [.ref q, .null, .int 0, .int 0, .int 0, .int 0, .long 0]) := (hr3 om ne_om_r).trans hg_om
  have hg_q := (hr3 q ne_q_r).trans hg_q
  refine pg_putF (ty := .array .long) hx hb hts hin_X3_X3_init tyX3 tyX3_ok nmX3 hown hK hP hD hS hL_om' hg_om rfl 1 (by decide) (hts (.fieldLink RX3 13 "NeedleBoardModel" "cell" "[J") (by decide +kernel)) rfl hin rfl (by decide +kernel) rfl rfl (Nat.le_of_ble_eq_true rfl) dX3_init_17 (fun H locs hP hD hS => ?_)
  obtain ⟨g4, eg4⟩ : ∃ z : Nat → va_E, z = va_up g3 om (.inr (3, [.ref q, .ref r, .int 0, .int 0, .int 0, .int 0, .long 0])) := ⟨_, rfl⟩
  have hP : va_P D vwCl (va_pl (L ++ [q] ++ [r]) g4) H := by rw [eg4]; exact hP
  have hD : va_D (PA L s.heap.size) (va_pl (L ++ [q] ++ [r]) g4) := by rw [eg4]; exact hD
  have hr4 : ∀ q' : Nat, q' ≠ om → g4 q' = g3 q' := fun q' h => (congrFun eg4 q').trans (va_up_ne _ _ h)
  exact W.vret hx hb hr (fun t ht hW => ⟨rfl, ⟨L ++ [q] ++ [r], tys ++ [(cA, .boolean)] ++ [(cB, .long)], g4, WW.mk hP hK hD hKC0 hTC hS hLA (fun z h => Or.inr h) ht hW.alike, ⟨q, r, cA, cB, rfl, rfl, hqL, hrL, by rw [eg4]; exact va_up_self _ _ _, (hr4 q (Ne.symm ne_om_q)).trans hg_q, (hr4 r (Ne.symm ne_om_r)).trans hg_r, fun q' h1 h2 h3 => (hr4 q' h3).trans ((hr3 q' h2).trans ((hr2 q' h3).trans (hrs q' h1)))⟩, hLA⟩, PA.F hS ht⟩) (fun q h => hS.2.2 q h) dX3_init_20
