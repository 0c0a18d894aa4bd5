theorem CK_zero (k : Nat) : CK 1 (fun _ => 0) k := ⟨num_zero (by decide), num_zero (by decide), num_zero (by decide), ⟨0, Nat.zero_le _, rfl⟩, num_zero (by decide), num_zero (by decide), Int64.le_refl _⟩
set_option maxHeartbeats 1000000 in
set_option maxRecDepth 100000 in
theorem whole_start {p : Program} {e : Env} {s : State} {m : MethodId} {below : List Frame} {meth : Method} {c : Code} (l : Launch) (hfl : l.stackTraces = false) {b L : Nat} {xs : Nat → Int32} (hL : L ≤ 3072) (C0 : lw_At p s m meth c b L xs) : W p l e room_1 s m #[Value.ref b] below meth c s.heap [] 0 0 (lw_Z below #[Value.ref b] s) (entryFrame m ([Value.ref b] : List Value).toArray 8) := by
  obtain ⟨hx, hb, hr, hml, hown, hts, hX, hbl, hlocks, hgv⟩ := id C0
  have hown : s.vm.findClass RL = some m.cls := hown
  have hb : c.code = cL_law := hb
  have htl : ∀ w ∈ wsL_law, w.before #[Value.ref b] s = true := fun w h => hts w (wsL_law_in w h)
  obtain ⟨ad, hKC⟩ := st_KC hts hgv
  have hTC := st_TC hts hgv
  have hXN := st_XN hts hgv
  have hAO : va_AO RX1 s := va_AO.of (hts (.arrayOver (.object RX1)) (by decide +kernel))
  obtain ⟨A, eA⟩ : ∃ z : Nat → Prop, z = fun q : Nat => s.heap.size ≤ q := ⟨_, rfl⟩
  rw [← eA] at hKC hTC
  have hA : ∀ q : Nat, s.heap.size ≤ q → A q := fun q h => by rw [eA]; exact h
  obtain ⟨c0, iS0, hKn0⟩ := u_known (C := RX0) (T := TX0) (N := 0) (n := 9) hts inX0 (hts (.instantiable RX0 9) (by decide +kernel))
  obtain ⟨c1, iS1, hKn1⟩ := u_known (C := RX1) (T := TX1) (N := 8) (n := 8) hts inX1 (hts (.instantiable RX1 8) (by decide +kernel))
  obtain ⟨c2, iS2, hKn2⟩ := u_known (C := RX2) (T := TX2) (N := 5) (n := 5) hts inX2 (hts (.instantiable RX2 5) (by decide +kernel))
  obtain ⟨c3, iS3, hKn3⟩ := u_known (C := RX3) (T := TX3) (N := 7) (n := 7) hts inX3 (hts (.instantiable RX3 7) (by decide +kernel))
  obtain ⟨D, hKc⟩ : ∃ D : va_G, ∀ (k : Nat) (q : vw_C), vwCl[k]? = some q → u_Kn s q.1 q.2.1 q.2.2 (D.1 k) (D.2 k) := by
    refine ⟨(fun k => if k = 0 then c0 else if k = 1 then c1 else if k = 2 then c2 else c3, fun k => if k = 0 then iS0 else if k = 1 then iS1 else if k = 2 then iS2 else iS3), ?_⟩
    intro k q hq
    match k, hq with
    | 0, hq => cases hq; exact hKn0
    | 1, hq => cases hq; exact hKn1
    | 2, hq => cases hq; exact hKn2
    | 3, hq => cases hq; exact hKn3
    | k + 4, hq => simp [vwCl] at hq
  have hS : va_S A s.heap s.heap [] := va_S.rf
  have hK : va_K D vwCl [] s := ⟨hKc, fun k q h => by simp at h⟩
  obtain ⟨g, -⟩ : ∃ g : Nat → va_E, True := ⟨fun _ => .inr (0, []), trivial⟩
  have hP : va_P D vwCl (va_pl [] g) s.heap := fun k q h => by simp [va_pl] at h
  have hD : va_D A (va_pl [] g) := ⟨fun i j p q h => by simp [va_pl] at h, fun k q h => by simp [va_pl] at h⟩
  have hl := lv_entry ([.ref b]) (n := 8) (Nat.le_of_ble_eq_true rfl)
  rw [lg_entry_eq]
  generalize (lg_sl ([.ref b]) ++ List.replicate (8 - (lg_sl ([.ref b])).length) Slot.unset).toArray = ls at hl ⊢
  have hl : lv_has ls 8 [(0, .ref b)] := hl
  refine pg_new (ci := 2) (fs := [.null, .int 0, .int 0, .long 0, .int 0]) (C := RX2) (T := TX2) (N := 5) hx hb hts inX2 tyX2 tyX2_ok hown (hts (.classLink RL 8 RX2) (by decide +kernel)) (hts (.instantiable RX2 5) (by decide +kernel)) (hts (.initialized RX2) (by decide +kernel)) hK hP hD hS hA rfl (fun j hj => by rcases (show j = 0 ∨ j = 1 ∨ j = 2 ∨ j = 3 ∨ j = 4 by omega) with rfl | rfl | rfl | rfl | rfl <;> rfl) (Nat.le_of_ble_eq_true rfl) (Nat.le_of_ble_eq_true rfl) dL_law_0 (fun ob H hobL hobA hP hD hS => ?_)
  obtain ⟨g1, eg1⟩ : ∃ z : Nat → va_E, z = va_up g ob (.inr (2, [.null, .int 0, .int 0, .long 0, .int 0])) := ⟨_, rfl⟩
  have hP : va_P D vwCl (va_pl [ob] g1) H := by rw [eg1]; exact hP
  have hD : va_D A (va_pl [ob] g1) := by rw [eg1]; exact hD
  have hg_ob : g1 ob = .inr (2, [.null, .int 0, .int 0, .long 0, .int 0]) := by rw [eg1]; exact va_up_self _ _ _
  have hLA : ∀ q ∈ [ob], A q := fun q h => by rw [List.mem_singleton.mp h]; exact hobA
  refine lv_dup hx hb dL_law_3 rfl ?_
  refine mx_I (b := ob) (As := []) (rest := [.ref ob]) ⟨hx, hb, hml, hown, htl⟩ (c_X2_init l D [] ad [ob] g1 H.size ob List.mem_cons_self hg_ob) (cwI 0 htl gL_law_X2_init rfl rfl rfl (hts (.initialized RX2) (by decide +kernel)) (hts (.methodLink RL 59 yX2_init) (by decide +kernel)) (hts (.instanceMethod yX2_init) (by decide +kernel)) rfl (by decide +kernel) ⟨Nat.le_of_ble_eq_true rfl, Nat.le_of_ble_eq_true rfl⟩) ⟨PWq.blind D [] ad [ob] g1 H.size _, fun U hU hW => ⟨rfl, WW.mk hP hK hD hKC hTC hS hLA hA hU hW.alike, hXN.warm hW, by rw [hU], va_AO.moved hW.alike hAO⟩⟩ hS hLA hA rfl hl.1 rfl (lv_room (Nat.le_of_ble_eq_true rfl)) dL_law_4 ⟨Nat.le_of_ble_eq_true rfl, Nat.le_of_ble_eq_true rfl⟩ (fun L1 tys1 g2 H locs hp hLA hK hP hD hS => ?_)
  obtain ⟨arr, cN, rfl, rfl, harrL, hg_ob, hg_arr, hrs⟩ := hp
  have ne_ob_arr : ob ≠ arr := fun h => harrL (h ▸ List.mem_cons_self)
  refine lv_astore_n (lv' := [(1, .ref ob), (0, .ref b)]) hx hb dL_law_7 rfl hl (by decide) rfl (fun ls hl => ?_)
  refine pg_new (ci := 3) (fs := [.null, .null, .int 0, .int 0, .int 0, .int 0, .long 0]) (C := RX3) (T := TX3) (N := 7) hx hb hts inX3 tyX3 tyX3_ok hown (hts (.classLink RL 60 RX3) (by decide +kernel)) (hts (.instantiable RX3 7) (by decide +kernel)) (hts (.initialized RX3) (by decide +kernel)) hK hP hD hS hA rfl (fun j hj => by rcases (show j = 0 ∨ j = 1 ∨ j = 2 ∨ j = 3 ∨ j = 4 ∨ j = 5 ∨ j = 6 by omega) with rfl | rfl | rfl | rfl | rfl | rfl | rfl <;> rfl) (Nat.le_of_ble_eq_true rfl) (Nat.le_of_ble_eq_true rfl) dL_law_8 (fun om H homL homA hP hD hS => ?_)
  obtain ⟨g3, eg3⟩ : ∃ z : Nat → va_E, z = va_up g2 om (.inr (3, [.null, .null, .int 0, .int 0, .int 0, .int 0, .long 0])) := ⟨_, rfl⟩
  obtain ⟨L3, eL3⟩ : ∃ z : List Nat, z = [ob] ++ [arr] ++ [om] := ⟨_, rfl⟩
  have hP : va_P D vwCl (va_pl L3 g3) H := by rw [eg3, eL3]; exact hP
  have hD : va_D A (va_pl L3 g3) := by rw [eg3, eL3]; exact hD
  have L_ob : ob ∈ L3 := by rw [eL3]; simp
  have L_arr : arr ∈ L3 := by rw [eL3]; simp
  have L_om : om ∈ L3 := by rw [eL3]; simp
  have ne_om_ob : om ≠ ob := fun h => homL (by rw [h]; simp)
  have ne_om_arr : om ≠ arr := fun h => homL (by rw [h]; simp)
  have hg_om : g3 om = .inr (3, [.null, .null, .int 0, .int 0, .int 0, .int 0, .long 0]) := by rw [eg3]; exact va_up_self _ _ _
  have hg_ob : g3 ob = .inr (2, [.ref arr, .int 0, .int 0, .long 0, .int 0]) := (congrFun eg3 ob).trans ((va_up_ne _ _ ne_om_ob.symm).trans hg_ob)
  have hg_arr : g3 arr = arrN cN := (congrFun eg3 arr).trans ((va_up_ne _ _ ne_om_arr.symm).trans hg_arr)
  have hLA : ∀ q ∈ L3, A q := fun q h => by
    rw [eL3] at h
    exact (List.mem_append.mp h).elim (hLA q) (fun h => by rw [List.mem_singleton.mp h]; exact homA)
  refine lv_dup hx hb dL_law_11 rfl ?_
  refine mx_I (b := om) (As := []) (rest := [.ref om]) ⟨hx, hb, hml, hown, htl⟩ (c_X3_init l D _ ad L3 g3 H.size om L_om hg_om) (cwI 0 htl gL_law_X3_init rfl rfl rfl (hts (.initialized RX3) (by decide +kernel)) (hts (.methodLink RL 62 yX3_init) (by decide +kernel)) (hts (.instanceMethod yX3_init) (by decide +kernel)) rfl (by decide +kernel) ⟨Nat.le_of_ble_eq_true rfl, Nat.le_of_ble_eq_true rfl⟩) ⟨PWn.blind D _ ad L3 g3 H.size _, fun U hU hW => ⟨rfl, WW.mk hP hK hD hKC hTC hS hLA hA hU hW.alike, hXN.warm hW, by rw [hU]⟩⟩ hS hLA hA rfl hl.1 rfl (lv_room (Nat.le_of_ble_eq_true rfl)) dL_law_12 ⟨Nat.le_of_ble_eq_true rfl, Nat.le_of_ble_eq_true rfl⟩ (fun L1 tys1 g4 H locs hp hLA hK hP hD hS => ?_)
  obtain ⟨fz, cj, cZ, cB, rfl, rfl, hfzL, hcjL, hg_om, hg_fz, hg_cj, hrs4⟩ := hp
  have ne_fz : ∀ {z : Nat}, z ∈ L3 → z ≠ fz := fun h z => hfzL (z ▸ h)
  have ne_cj : ∀ {z : Nat}, z ∈ L3 → z ≠ cj := fun h z => hcjL (z ▸ List.mem_append_left _ h)
  have ne_fz_cj : fz ≠ cj := fun h => hcjL (h ▸ List.mem_append_right _ List.mem_cons_self)
  have hg_ob := (hrs4 ob (ne_fz L_ob) (ne_cj L_ob) ne_om_ob.symm).trans hg_ob
  have hg_arr := (hrs4 arr (ne_fz L_arr) (ne_cj L_arr) ne_om_arr.symm).trans hg_arr
  refine lv_astore_n (lv' := [(2, .ref om), (1, .ref ob), (0, .ref b)]) hx hb dL_law_15 rfl hl (by decide) rfl (fun ls hl => ?_)
  refine lv_iconst (v := 1) hx hb dL_law_16 (by decide) ?_
  refine pg_newa (atype := .long) (n := 1) (ty := .long) (N' := 1) (a0 := (1, .inr (.inl (fun _ => 0)))) hx hb (hts (.arrayClass .long) (by decide +kernel)) rfl hK hP hD hS hA (ha_J 1) (by decide) (by decide) (by decide +kernel) (Nat.le_of_ble_eq_true rfl) (Nat.le_of_ble_eq_true rfl) dL_law_17 (fun out cJ H houtL houtA hK hP hD hS => ?_)
  have eBJ : cB = cJ := by
    have k1 := (hK.2 2 (cB, .long) rfl).2
    have k2 := (hK.2 3 (cJ, .long) rfl).2
    exact Option.some.inj (Eq.trans (Eq.symm (k1 : s.vm.findClass _ = some cB)) (k2 : s.vm.findClass _ = some cJ))
  subst eBJ
  obtain ⟨g5, eg5⟩ : ∃ z : Nat → va_E, z = va_up g4 out (.inl (cB, (1, .inr (.inl (fun _ => 0))))) := ⟨_, rfl⟩
  obtain ⟨L5, eL5⟩ : ∃ z : List Nat, z = L3 ++ [fz] ++ [cj] ++ [out] := ⟨_, rfl⟩
  have hP : va_P D vwCl (va_pl L5 g5) H := by rw [eg5, eL5]; exact hP
  have hD : va_D A (va_pl L5 g5) := by rw [eg5, eL5]; exact hD
  have in5 : ∀ {z : Nat}, z ∈ L3 ++ [fz] ++ [cj] → z ∈ L5 := fun h => by rw [eL5]; exact List.mem_append_left _ h
  have in4 : ∀ {z : Nat}, z ∈ L3 → z ∈ L3 ++ [fz] ++ [cj] := fun h => List.mem_append_left _ (List.mem_append_left _ h)
  have L_fz4 : fz ∈ L3 ++ [fz] ++ [cj] := List.mem_append_left _ (List.mem_append_right _ List.mem_cons_self)
  have L_cj4 : cj ∈ L3 ++ [fz] ++ [cj] := List.mem_append_right _ List.mem_cons_self
  have ne_out : ∀ {z : Nat}, z ∈ L3 ++ [fz] ++ [cj] → z ≠ out := fun h z => houtL (z ▸ h)
  have kp : ∀ {z : Nat}, z ∈ L3 ++ [fz] ++ [cj] → g5 z = g4 z := fun h => (congrFun eg5 _).trans (va_up_ne _ _ (ne_out h))
  have hg_out : g5 out = .inl (cB, (1, .inr (.inl (fun _ => 0)))) := by rw [eg5]; exact va_up_self _ _ _
  have hLA : ∀ q ∈ L5, A q := fun q h => by
    rw [eL5] at h
    exact (List.mem_append.mp h).elim (hLA q) (fun h => by rw [List.mem_singleton.mp h]; exact houtA)
  have hK : va_K D vwCl [(cB, .long), (cZ, .boolean), (cN, .object RX1)] s := hK.sub [3, 1, 0] rfl
  refine lv_astore_n (lv' := [(3, .ref out), (2, .ref om), (1, .ref ob), (0, .ref b)]) hx hb dL_law_19 rfl hl (by decide) rfl (fun ls hl => ?_)
  refine lv_iconst (v := 0) hx hb dL_law_20 (by decide) ?_
  refine lv_istore (lv' := [(4, .int 0), (3, .ref out), (2, .ref om), (1, .ref ob), (0, .ref b)]) hx hb dL_law_21 hl (by decide) rfl (fun ls hl => ?_)
  subst eA
  have C : LC p l s m meth c b L xs D [(cB, .long), (cZ, .boolean), (cN, .object RX1)] ad cB cZ cN := ⟨hfl, hx, hb, hml, hown, htl, hX, hbl, hK, hKC, hTC, hXN, rfl, rfl, rfl⟩
  have I : ST ob arr out om fz cj L5 0 (fun _ => 1) (fun _ => 0) (fun _ => none) (fun _ => 0) (fun _ => 0) :=
    ST.mk0 (Nat.zero_le _) (in5 (in4 L_ob)) (in5 (in4 L_arr)) (by rw [eL5]; exact List.mem_append_right _ List.mem_cons_self) (in5 (in4 L_om)) (in5 L_fz4) (in5 L_cj4) (ne_ob_arr) (ne_out (in4 L_ob)) (ne_om_ob.symm) (ne_fz L_ob) (ne_cj L_ob) (ne_out (in4 L_arr)) (ne_om_arr.symm) (ne_fz L_arr) (ne_cj L_arr) ((ne_out (in4 L_om)).symm) ((ne_out L_fz4).symm) ((ne_out L_cj4).symm) (ne_fz L_om) (ne_cj L_om) (ne_fz_cj) (fun k hk => absurd hk (Nat.not_lt_zero k)) (fun k hk => absurd hk (Nat.not_lt_zero k)) (fun k j hk => absurd hk (Nat.not_lt_zero k)) (fun k hk => absurd hk (Nat.not_lt_zero k)) (fun _ _ => rfl) (fun k _ => ⟨(by decide : 1 < 2), (by decide : (0 : Int32) = fI 1), CK_zero k⟩)
  have w : LW s D ad cB cZ cN ob arr out om fz cj L5 g5 H locs 0 (fun _ => 1) (fun _ => 0) (fun _ => none) (fun _ => 0) (fun _ => 0) 0 0 0 0 :=
    ⟨hP, hD, hS, hLA, I, ⟨(kp (in4 L_ob)).trans hg_ob, (kp (in4 L_arr)).trans hg_arr, fun k hk => absurd hk (Nat.not_lt_zero k)⟩, ⟨(kp (in4 L_om)).trans hg_om, (kp L_fz4).trans hg_fz, (kp L_cj4).trans hg_cj⟩, ⟨_, hg_out⟩⟩
  refine W.widen (k := 6 + 3 * 0) (n := 85 + 20 * 0) (Nat.le_of_ble_eq_true rfl) (Nat.le_of_ble_eq_true rfl) ?_
  exact law_loop hL C hr hlocks 6 85 (by decide) (by decide) L 0 (by omega) (Nat.zero_le _) L5 g5 H locs 0 _ _ _ _ _ _ _ _ _ ls w (lv_sub hl [4, 3, 2, 1, 0] rfl)
set_option maxHeartbeats 4000000 in
theorem lw_walk (l : Launch) (hfl : l.stackTraces = false) (b : Addr) (xs : List Int32) : MetFree l x (headSpec (Jvm.Cond.code x code maxLocals ret :: tables_1) room_1) (lw_P b xs) (fun _ _ _ _ _ => True) lw_Q := by
  refine MetFree.of_bodyS (code := code) (maxLocals := maxLocals) (ret := ret) (by decide) ?_ ?_
  · intro args s m h hn
    obtain ⟨meth, c, h1, h2, h3, h4, h5, h6, -, -⟩ := Cond.code_spec hn (atoms_spec (ws := Jvm.Cond.code x code maxLocals ret :: tables_1) h _ List.mem_cons_self)
    exact ⟨meth, c, h1, h2, h3, h4, h5, h6⟩
  · intro p e s m args below meth c s₁ B hml0 hP _
    obtain ⟨rfl, hx, hbd, hgv⟩ := hP
    obtain ⟨scr, harrAt, hlist, hof, hsmall⟩ := hx
    obtain ⟨hcb, hkn, -, -⟩ := State.arrayAt?_spec harrAt
    have hown : s.vm.findClass R_law = some m.cls := findClass_of_methodNamed B.named
    have hts0 : ∀ c ∈ (Jvm.Cond.code x code maxLocals ret :: tables_1), c.before #[Value.ref b] s = true := atoms_spec (ws := Jvm.Cond.code x code maxLocals ret :: tables_1) B.pre
    have hts : ∀ w ∈ lw_tbl, w.before #[Value.ref b] s = true := k2_hts_sels lw_privs (fun w hw => hts0 w (List.mem_cons_of_mem _ hw)) lw_privs_ok
    have hml : c.maxLocals = 8 := B.maxLocals_eq (hts0 _ List.mem_cons_self)
    have X₀ : Stand p l e room_1 s m #[Value.ref b] below meth c s₁ [] 0 0 := Stand.of_body B
    have hh0 : s₁.heap = s.heap := by rw [B.state]; rfl
    have hsz : scr.slots.size = xs.length := by rw [← Array.length_toList, hlist, List.length_map]
    have hval : ∀ j : Nat, j < xs.length → scr.slots[j]? = some (.int (xs.getD j 0)) := fun j hj => by
      rw [← Array.getElem?_toList, hlist]
      simp [hj]
    have hbl : b < s.heap.size := (Array.getElem?_eq_some_iff.mp hcb).1
    have hX : va_X b xs.length (fun j => xs.getD j 0) s s.heap := ⟨scr, hcb, hof, hkn, hsz, hval⟩
    have K : W p l e room_1 s m #[Value.ref b] below meth c s₁.heap [] 0 0 (lw_Z below #[Value.ref b] s) (entryFrame m ([Value.ref b] : List Value).toArray 8) := by
      rw [hh0]
      exact whole_start l hfl hbd ⟨B.exec, B.bytes, B.returns, hml, hown, hts, hX, hbl, B.notSynchronized, hgv⟩
    obtain ⟨t, a1, o, b1, b2, b3⟩ := K s₁ rfl X₀
    exact ⟨t, o, a1, b1, b2, b3⟩
theorem lw_pre_spec {args : Array Value} {s : State} (h : (Jvm.Cond.and given_1 narrow_1).before args s = true) (hr : rest_1_c.before args s = true) : ∃ (b : Addr) (xs : List Int32), lw_P b xs args s := by
  have hs := flat_of_before _ h
  have hq := flat_of_before _ hr
  have hc : (Cond.count 1).before args s = true := hs _ (by decide +kernel)
  have harr : (Cond.arrayOf (.arg 0) .int).before args s = true := hs _ (by decide +kernel)
  have hle : (Cond.le (.length (.arg 0)) (.int 3072)).before args s = true := hs _ (by decide +kernel)
  have hlen : (Cond.isInt (.length (.arg 0))).before args s = true := hq _ (by decide +kernel)
  have hall : (Cond.all (.arg 0) (.isInt (.elem (.arg 0) (.index 0)))).before args s = true := hq _ (by decide +kernel)
  obtain ⟨b, xs, hb, hx⟩ := State.ints_of_pre rfl harr hlen hall
  have hsm : xs.length < 2 ^ 31 := hx.choose_spec.2.2.2
  have hev : (Term.length (.arg 0)).eval args s none [] s = some (.int xs.length.toInt32) := hx.length_eval hb
  have hv := Cond.le_ints hev (show (Term.int 3072).eval args s none [] s = some (.int 3072) from rfl)
  have hd : xs.length.toInt32 ≤ 3072 := by
    simpa [Cond.before, Cond.holds, hv] using hle
  have hN : xs.length ≤ 3072 := (Int32.ofNat_le_ofNat hsm (by decide)).mp (show Int32.ofNat xs.length ≤ Int32.ofNat 3072 from hd)
  exact ⟨b, xs, Cond.one_arg hc (show args[0]? = some (.ref b) from hb), hx, hN, h⟩
theorem lw_comes (l : Launch) (hfl : l.stackTraces = false) : Comes l x (Jvm.Cond.code x code maxLocals ret :: tables_1) room_1 (fun tb e args s => Calls_1 tb e args s ∧ rest_1 tb e args s ∧ Pre_1 tb e args s)
    (fun _ _ args s o t => lw_Q args s o t) := by
  intro p e ha hc hk s m args below hf hfit hheap happ hpre
  obtain ⟨b, xs, hP⟩ := lw_pre_spec hpre.2.2 hpre.2.1
  obtain ⟨k, o, h1, h2, h3, hQ⟩ := lw_walk l hfl b xs p e ha hc hk s m args below hf ((Spec.applies_iff_loose hf).mp happ).1 hP trivial
  exact ⟨k, o, h1, h2, h3, hQ⟩
theorem lw_frame {s t : State} {o : Outcome} {args : Array Value} (h : Framed s o t [] 601024 7293034) :
    Framed s o t (fieldLocs frame_1_writes args s ++ arrayLocs frame_1_arrays args s ++ staticLocs frame_1_statics s) 601024 7293034 := h
theorem lw_limb (L : Cond) (hL : ∀ (args : Array Value) (s t : State), L.after args s (.returned (some (.int 1))) t = true) :
    ArmFor flags0 classFile x code maxLocals ret World_1 tables_1 room_1 Calls_1 rest_1 Pre_1
      (fun tb e a s o t => postC L tb e a s o t ∧ Framed s o t (fieldLocs frame_1_writes a s ++ arrayLocs frame_1_arrays a s ++ staticLocs frame_1_statics s) 601024 7293034) := by
  intro l hlf _ _ p e ha hc hk s m args below hf hfit hheap happ hpre
  obtain ⟨k, o, h1, h2, h3, rfl, hF⟩ := lw_comes l (by unfold Launch.stackTraces; rw [hlf]; decide +kernel) p e ha hc hk s m args below hf hfit hheap happ hpre
  exact ⟨k, _, h1, h2, h3, hL args s _, lw_frame hF⟩
theorem i_vc : Claimed_1_1 ∧ Claimed_1_2 := ⟨lw_limb limb_1_1 (fun args s t => by simp [limb_1_1, Cond.after, Cond.holds, Cond.value]), lw_limb limb_1_2 (fun args s t => Cond.after_iff.mpr (by
  first | (rw [show limb_1_2 = Cond.eq .result (.int 1) from rfl, Cond.eq_ints (x := 1) (y := 1) rfl rfl]; simp; done) | (simp [limb_1_2, Cond.value, Term.eval]; done)))⟩
