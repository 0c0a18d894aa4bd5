section HN
variable {p : Program} {l : Launch} {e : Env} {R : Room} {s : State} {m : MethodId} {args : Array Value} {below : List Frame} {meth : Method} {c : Code} {H : Heap} {locs : List Loc} {cells slots : Nat} {Q : State → Prop}
variable {cc : ByteArray} {pc : Nat} {ls : Array Slot} {rest st0 : List Value} {A : Nat → Prop} {ad : Nat → Nat} {D : va_G} {tys : List (ClassId × FieldType)} {L : List Nat} {g : Nat → va_E}
variable {y : MethodName} {bytes : ByteArray} {maxL nL n index : Nat} {ret : Option FieldType} {ws Ts : List Cond} {rm : Room} {own C : String} {As : List Value}
theorem hn_V {b mc ms code : Nat} {r : Option Value} {P : Nat → (Nat → va_E) → Prop} (S : CallFix p m c cc nL s args Ts own) (hM : vx_Met l y ws rm (PWn D tys ad L g H.size (.ref b :: As)) (QN D tys ad L code r P) (XW D tys ad L g code) mc ms (PA L H.size)) (cw : CallW R s args own C index y bytes maxL ret ws rm mc ms n)
    (hrec : ∃ cell : Cell, H[b]? = some cell ∧ cell.vm.isStatics = false ∧ s.vm.findClass C = some cell.cls) (hWW : ∀ U : State, U.heap = H → s.vm.Alike U.vm → WW D tys ad L g U) (hXN : XN s) (hS : va_S A s.heap H locs) (hLA : ∀ q ∈ L, A q) (hA : ∀ q, s.heap.size ≤ q → A q) (hn : As.length = n) (hl : ls.size = nL) (hst : st0 = As.reverse ++ .ref b :: rest) (hW : 2 * (F0 m pc ls rest).monitorRoom + (rest.map fun v => v.category).sum ≤ 8)
    (hdg : decode cc pc = .ok (.invokevirtual index, 3)) (hf : cells + mc ≤ R.cells ∧ slots + ms ≤ R.slots)
    (kx : ∀ (E : String) (ce : Cell) (q9 : Addr) (H1 : Heap) (locs1 : List Loc), XE code E → va_P D vwCl (va_pl L g) H1 → va_D A (va_pl L g) → va_S A s.heap H1 locs1 → H1[q9]? = some ce → ce.vm = .none → s.vm.findClass E = some ce.cls → vx_W p l e R s m args below meth c H1 locs1 (cells + mc) (slots + ms) Q (F0 m pc ls rest) q9)
    (kk : code = 0 → ∀ (q : Nat) (g1 : Nat → va_E) (H1 : Heap) (locs1 : List Loc), q ∉ L → P q g1 → (∀ z ∈ L ++ [q], A z) → va_P D vwCl (va_pl (L ++ [q]) g1) H1 → va_D A (va_pl (L ++ [q]) g1) → va_S A s.heap H1 locs1 → W p l e R s m args below meth c H1 locs1 (cells + mc) (slots + ms) Q (F0 m (pc + 3) ls (r.toList ++ rest))) : W p l e R s m args below meth c H locs cells slots Q (F0 m pc ls st0) := by
  subst hst
  intro T hT X
  have hfA : ∀ q, PA L H.size q → A q := fun q h => h.elim (hLA q) (fun h => hA q (Nat.le_trans hS.1 h))
  rcases vx_runV (g := F0 m pc ls (As.reverse ++ .ref b :: rest)) S hM cw ⟨PWn.blind D tys ad L g _ _, hrec, fun U hU hW => ⟨rfl, hWW U hU hW.alike, hXN.warm hW, by rw [hU]⟩⟩ rfl hn hl rfl hW hdg hf T hT X with ⟨v, st₀, t, T', L', h0, X', hL', e1, e2, ⟨hc0, hv, ⟨q, g1, hqL, hqs, hw, hp⟩, hF⟩, st⟩ | ⟨q, st₀, t, T', L', E, ce, h0, X', hL', e1, e2, ⟨hxe, hw, hF⟩, hce, hcv, hcl, st⟩
  · cases hv
    obtain ⟨k1, k2, k3⟩ := vx_keep (free := PA L H.size) h0 e1 hS (fun q _ h => hLA q h) hfA hL' hF
    have hq2 : ∀ z ∈ L ++ [q], A z := fun z hz => (List.mem_append.mp hz).elim (fun h => hLA z h) (fun h => by rw [List.mem_singleton.mp h]; exact hfA q (Or.inr (by rw [← h0]; exact hqs)))
    obtain ⟨t2, a1, b1⟩ := kk hc0 q g1 T'.heap (locs ++ L') hqL hp hq2 (by rw [e1]; exact hw.1) (hw.2.2.1.weaken (fun _ _ hk _ => hq2 _ (pl_in hk))) k3 T' rfl X'
    exact ⟨t2, st t2 a1, b1⟩
  · obtain ⟨k1, k2, k3⟩ := vx_keep (free := PA L H.size) (A1 := fun _ => False) h0 e1 hS (fun q _ h => h.elim) hfA hL' hF
    obtain ⟨t2, a1, b1⟩ := kx E ce q T'.heap (locs ++ L') hxe (by rw [e1]; exact hw.1) (we_D hLA hw.2.2.1) k3 (by rw [e1]; exact hce) hcv hcl T' rfl X'
    exact ⟨t2, st.trans a1, b1⟩
end HN
def QL (D : va_G) (tys : List (ClassId × FieldType)) (ad : Nat → Nat) (L : List Nat) (g : Nat → va_E) (code : Nat) (P : Nat → (Nat → va_E) → Prop) : Array Value → State → Outcome → State → Prop := fun _ st o t => o = .returned (some (.int (nI (code - 1)))) ∧ ((code = 0 ∧ ∃ (q : Nat) (g1 : Nat → va_E), q ∉ L ∧ st.heap.size ≤ q ∧ WW D tys ad (L ++ [q]) g1 t ∧ P q g1) ∨ (¬ code = 0 ∧ WW D tys ad L g t)) ∧ va_F (fun q => q ∈ L) st t
theorem nc1_X2_needle (i : Nat) (made : Int32) (x2 x3 : Int64) : ¬ fX2_needle i made x2 x3 = 1 := by
  have h1 := nf_code i x2
  have h2 := nf_code i x3
  unfold fX2_needle
  repeat' split
  all_goals omega
theorem hd_L_needle : yL_needle.cls ≠ "java/lang/invoke/MethodHandle" ∧ yL_needle.cls ≠ "java/lang/invoke/VarHandle" ∧ (parseMethodDescriptor yL_needle.desc).map (fun d => d.parameters.length) = some 5 := by decide +kernel
set_option maxHeartbeats 1000000 in
set_option maxRecDepth 100000 in
theorem c_L_needle (l : Launch) (hfl : l.stackTraces = false) {cyJ cyN : ClassId} (D : va_G) (tys : List (ClassId × FieldType)) (ad : Nat → Nat) (L : List Nat) (g : Nat → va_E) (sz : Nat) (ob arr out : Nat) (made : Int32) (mvs : Int32) (twi : Int64) (tna : Int32) (fa : Nat → Option Nat) (i : Nat) (x1 : Int32) (x2 x3 : Int64) (fo : Nat → Int64) (hi : i < 2) (hix : i = if x1 = 0 then 1 else 0) (hL_ob : ob ∈ L) (hL_arr : arr ∈ L) (hg_ob : g ob = .inr (2, [.ref arr, .int made, .int mvs, .long twi, .int tna])) (hg_arr : g arr = .inl (cyN, 8, .inr (.inr (.inr (.inr fa))))) (ne_arr_ob : arr ≠ ob) (htN : tys[2]? = some (cyN, .object RX1)) (hmd : made < 8 → vp_in made 8) (hL_out : out ∈ L) (hg_out : g out = .inl (cyJ, 1, .inr (.inl fo))) (htJ : tys[0]? = some (cyJ, .long)) (ne_out_ob : out ≠ ob) (ne_out_arr : out ≠ arr) :
    Met l yL_needle wsL_needle ({ frames := 9, cells := 3, slots := 20, locals := 190 }) (PWn D tys ad L g sz [.ref ob, .int x1, .long x2, .long x3, .ref out]) (QL D tys ad L g (fX2_needle i made x2 x3) (fun q g1 => g1 q = .inr (1, [.ref (ad i), .long ((fX2_numberFrom i x2).2), .long ((fX2_numberFrom i x3).2), .long ((fX1_startAgain i ((fX2_numberFrom i x2).2) ((fX2_numberFrom i x3).2) 0 (kInf i) 0 0 0).1), .long (kInf i), .long ((fX1_startAgain i ((fX2_numberFrom i x2).2) ((fX2_numberFrom i x3).2) 0 (kInf i) 0 0 0).2.1), .long ((fX1_startAgain i ((fX2_numberFrom i x2).2) ((fX2_numberFrom i x3).2) 0 (kInf i) 0 0 0).2.2.1), .long ((fX1_startAgain i ((fX2_numberFrom i x2).2) ((fX2_numberFrom i x3).2) 0 (kInf i) 0 0 0).2.2.2)]) ∧ g1 ob = .inr (2, [.ref arr, .int (made + 1), .int mvs, .long twi, .int tna]) ∧ g1 arr = .inl (cyN, 8, .inr (.inr (.inr (.inr (va_up fa made.toNatClampNeg (some q)))))) ∧ g1 out = .inl (cyJ, 1, .inr (.inl (vp_updL fo (0 : Int32).toNatClampNeg ((made + 1 - 1).toInt64)))) ∧ ∀ q' : Nat, q' ≠ q → q' ≠ ob → q' ≠ arr → q' ≠ out → g1 q' = g q')) 3 20 (PA L sz) := by
  refine va_MetW (cc := cL_needle) (maxL := 8) (ret := some .int) (hh := [(0, 13, 16, 13), (0, 13, 20, 15)]) (by decide) rfl ?_
  intro p e s m args below meth c s₁ B hml hv
  obtain ⟨rfl, ⟨hP, hK, hD, hKC0, hTC⟩, hXN, rfl⟩ := hv
  have hS : va_S (PA L s.heap.size) s.heap s.heap [] := va_S.rf
  have hLA0 : ∀ z ∈ L, PA L s.heap.size z := fun z h => Or.inl h
  have hx := B.exec
  have hb := B.bytes
  have hr := B.returns
  have hts := atoms_spec (ws := wsL_needle) B.pre
  have hown : s.vm.findClass RL = some m.cls := findClass_of_methodNamed B.named
  have hlocks := B.notSynchronized
  have hT := vx_table (x := yL_needle) B (hts _ List.mem_cons_self)
  have hl := lv_entry ([.ref ob, .int x1, .long x2, .long x3, .ref out]) (n := 8) (Nat.le_of_ble_eq_true rfl)
  rw [lg_entry_eq]
  generalize (lg_sl ([.ref ob, .int x1, .long x2, .long x3, .ref out]) ++ List.replicate (8 - (lg_sl ([.ref ob, .int x1, .long x2, .long x3, .ref out])).length) Slot.unset).toArray = ls at hl ⊢
  have hl : lv_has ls 8 [(0, .ref ob), (1, .int x1), (2, .long x2), (4, .long x3), (6, .ref out)] := hl
  refine lv_aload hx hb dL_needle_0 (lv_at hl 4 rfl) ?_
  refine lv_iconst (v := 0) hx hb dL_needle_2 (by decide) ?_
  refine lv_aload_n hx hb dL_needle_3 rfl (lv_at hl 0 rfl) ?_
  refine lv_iload_n hx hb dL_needle_4 rfl (lv_at hl 1 rfl) ?_
  refine lv_lload_n hx hb dL_needle_5 rfl (lv_at hl 2 rfl) ?_
  refine lv_lload hx hb dL_needle_6 (lv_at hl 3 rfl) ?_
  refine hn_V (b := ob) (As := [.int x1, .long x2, .long x3]) (rest := [.int (0 : Int32), .ref out]) ⟨hx, hb, hml, hown, hts⟩ (c_X2_needle l hfl D tys ad L g s.heap.size ob arr made mvs twi tna fa i x1 x2 x3 hi hix hL_ob hL_arr hg_ob hg_arr ne_arr_ob htN hmd) (cwV 3 hts gL_needle_X2_needle rfl rfl rfl hd_X2_needle ⟨(Nat.le_of_ble_eq_true rfl), (Nat.le_of_ble_eq_true rfl)⟩) (pg_recv hK hP hL_ob hg_ob rfl) (fun U hU hvm => WW.mk hP hK hD hKC0 hTC hS hLA0 (fun z h => Or.inr h) hU hvm) hXN hS hLA0 (fun z h => Or.inr h) rfl hl.1 rfl (lv_room (Nat.le_of_ble_eq_true rfl)) dL_needle_8 ⟨(Nat.le_of_ble_eq_true rfl), (Nat.le_of_ble_eq_true rfl)⟩ (fun E ce q9 H locs hxe hP hD hS hce hcv hcl => ?_) (fun hc0 q g1 H locs hqL hp9 hLA hP hD hS => ?_)
  · rcases hxe with ⟨hc, rfl⟩ | ⟨hc, rfl⟩ | ⟨hc, rfl⟩
    · exact absurd hc (nc1_X2_needle _ _ _ _)
    · refine vx_catch (own := RL) (name := "java/lang/IllegalArgumentException") (E := ieN) hown [] ⟨0, 13, 16, 13⟩ [⟨0, 13, 20, 15⟩] (hT.trans rfl) (fun _ h => nomatch h) (by decide) (by decide) (hts (.classLink RL 13 "java/lang/IllegalArgumentException") (by decide +kernel)) (nw_use (w := .castable "java/lang/IllegalArgumentException" "java/lang/IllegalArgumentException") rfl (hXN.2 _ (by decide +kernel))) hce hcv hcl ?_
      refine lv_astore (lv' := [(7, .ref q9), (0, .ref ob), (1, .int x1), (2, .long x2), (4, .long x3), (6, .ref out)]) hx hb dL_needle_16 hl (by decide) rfl (fun ls hl => ?_)
      refine lv_iconst (v := 1) hx hb dL_needle_18 (by decide) ?_
      exact W.widen (k := 3) (n := 20) (Nat.le_of_ble_eq_true rfl) (Nat.le_of_ble_eq_true rfl) (W.iret hx hb hr (fun t ht hW => ⟨by rw [hc]; rfl, Or.inr ⟨by rw [hc]; decide, WW.mk hP hK hD hKC0 hTC hS hLA0 (fun z h => Or.inr h) ht hW.alike⟩, PA.F hS ht⟩) (fun q h => hS.2.2 q h) dL_needle_19)
    · refine vx_catch (own := RL) (name := "java/lang/IllegalStateException") (E := isN) hown [⟨0, 13, 16, 13⟩] ⟨0, 13, 20, 15⟩ [] (hT.trans rfl) (fun z hz => by simp only [List.mem_cons, List.not_mem_nil, or_false] at hz; rcases hz with rfl; exact Or.inr ⟨by decide, "java/lang/IllegalArgumentException", hts (.classLink RL 13 "java/lang/IllegalArgumentException") (by decide +kernel), hXN.1.2 ("java/lang/IllegalStateException", "java/lang/IllegalArgumentException") (by decide +kernel)⟩) (by decide) (by decide) (hts (.classLink RL 15 "java/lang/IllegalStateException") (by decide +kernel)) (nw_use (w := .castable "java/lang/IllegalStateException" "java/lang/IllegalStateException") rfl (hXN.2 _ (by decide +kernel))) hce hcv hcl ?_
      refine lv_astore (lv' := [(7, .ref q9), (0, .ref ob), (1, .int x1), (2, .long x2), (4, .long x3), (6, .ref out)]) hx hb dL_needle_20 hl (by decide) rfl (fun ls hl => ?_)
      refine lv_iconst (v := 2) hx hb dL_needle_22 (by decide) ?_
      exact W.widen (k := 3) (n := 20) (Nat.le_of_ble_eq_true rfl) (Nat.le_of_ble_eq_true rfl) (W.iret hx hb hr (fun t ht hW => ⟨by rw [hc]; rfl, Or.inr ⟨by rw [hc]; decide, WW.mk hP hK hD hKC0 hTC hS hLA0 (fun z h => Or.inr h) ht hW.alike⟩, PA.F hS ht⟩) (fun q h => hS.2.2 q h) dL_needle_23)
  · refine W.eq (g2 := F0 m 11 ls [.int (made + 1 - 1), .int (0 : Int32), .ref out]) rfl ?_
    obtain ⟨hg_q, hg_ob, hg_arr, hr9⟩ := hp9
    have ne_out_q : out ≠ q := fun h => hqL (h ▸ hL_out)
    have ne_ob_q : ob ≠ q := fun h => hqL (h ▸ hL_ob)
    have ne_arr_q : arr ≠ q := fun h => hqL (h ▸ hL_arr)
    have hg_out : g1 out = .inl (cyJ, 1, .inr (.inl fo)) := (hr9 out ne_out_q ne_out_ob ne_out_arr).trans hg_out
    have hL_out' : out ∈ L ++ [q] := List.mem_append_left _ hL_out
    have hqs : s.heap.size ≤ q := (hLA q (List.mem_append_right _ List.mem_cons_self)).elim (fun h => absurd h hqL) id
    refine lv_i2l hx hb dL_needle_11 rfl ?_
    refine pg_last hx hb hK hP hD hS 0 hL_out' hg_out htJ (by unfold vp_in; decide) dL_needle_12 (fun H locs hP hD hS => ?_)
    obtain ⟨g2, eg2⟩ : ∃ z : Nat → va_E, z = va_up g1 out (.inl (cyJ, 1, .inr (.inl (vp_updL fo (0 : Int32).toNatClampNeg ((made + 1 - 1).toInt64))))) := ⟨_, rfl⟩
    have hP : va_P D vwCl (va_pl (L ++ [q]) g2) H := by rw [eg2]; exact hP
    have hD : va_D (PA L s.heap.size) (va_pl (L ++ [q]) g2) := by rw [eg2]; exact hD
    have hr2 : ∀ q' : Nat, q' ≠ out → g2 q' = g1 q' := fun q' h => (congrFun eg2 q').trans (va_up_ne _ _ h)
    have hg_q := (hr2 q (Ne.symm ne_out_q)).trans hg_q
    have hg_ob := (hr2 ob (Ne.symm ne_out_ob)).trans hg_ob
    have hg_arr := (hr2 arr (Ne.symm ne_out_arr)).trans hg_arr
    refine lv_goto (tgt := 24) hx hb dL_needle_13 (by decide) ?_
    refine lv_iconst (v := 0) hx hb dL_needle_24 (by decide) ?_
    exact W.widen (k := 3) (n := 20) (Nat.le_of_ble_eq_true rfl) (Nat.le_of_ble_eq_true rfl) (W.iret hx hb hr (fun t ht hW => ⟨by rw [hc0]; rfl, Or.inl ⟨hc0, q, g2, hqL, hqs, WW.mk hP hK hD hKC0 hTC hS hLA (fun z h => Or.inr h) ht hW.alike, hg_q, hg_ob, hg_arr, by rw [eg2]; exact va_up_self _ _ _, fun q' h1 h2 h3 h4 => (hr2 q' h4).trans (hr9 q' h1 h2 h3)⟩, PA.F hS ht⟩) (fun q h => hS.2.2 q h) dL_needle_25)
