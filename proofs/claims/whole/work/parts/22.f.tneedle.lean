/-! the turn that makes a needle (printed by gen22f.py) -/
set_option maxHeartbeats 1000000 in
set_option maxRecDepth 100000 in
theorem t_needle2 {p : Program} {l : Launch} {e : Env} {s : State} {m : MethodId} {below : List Frame} {meth : Method} {c : Code} {b Lx : Nat} {xs : Nat → Int32} {D : va_G} {tys : List (ClassId × FieldType)} {ad : Nat → Nat} {cyJ cyZ cyN : ClassId} {ob out om fz cj : Nat} {L : List Nat} {g : Nat → va_E} {H : Heap} {locs : List Loc} {N : Nat} {ff : Nat → Int32} {cv : Nat → Int64} {mvs tna kt : Int32} {twi : Int64} {iv : Int32} {cells slots : Nat} {Q : State → Prop} {ls : Array Slot} {a1 : Int32} {a2 : Int32} {a3 : Int32} {a4 : Int32} {a5 : Int32} (ea1 : a1 = xs (iv + 1).toNatClampNeg) (ea2 : a2 = xs (iv + 2).toNatClampNeg) (ea3 : a3 = xs (iv + 3).toNatClampNeg) (ea4 : a4 = xs (iv + 4).toNatClampNeg) (ea5 : a5 = xs (iv + 5).toNatClampNeg) {fo2 : Nat → Int64} {M : Int32 × (Nat → Int32) × (Nat → Int64) × Int32 × Int32} (C : LC p l s m meth c b Lx xs D tys ad cyJ cyZ cyN) (hl : lv_has ls 8 [(0, .ref b), (1, .ref ob), (2, .ref om), (3, .ref out), (4, .int iv)]) (hin : ∀ k : Int32, (0 ≤ k ∧ k ≤ 5) → vp_in (iv + k) Lx) (hc : cells + 3 ≤ room_1.cells ∧ slots + 20 ≤ room_1.slots) (hP : va_P D vwCl (va_pl L g) H) (hD : va_D (fun q : Nat => s.heap.size ≤ q) (va_pl L g)) (hS : va_S (fun q : Nat => s.heap.size ≤ q) s.heap H locs) (hLA : ∀ q ∈ L, s.heap.size ≤ q) (L_om : om ∈ L) (L_fz : fz ∈ L) (L_cj : cj ∈ L) (L_out : out ∈ L) (om_fz : om ≠ fz) (om_cj : om ≠ cj) (fz_cj : fz ≠ cj) (out_om : out ≠ om) (out_fz : out ≠ fz) (out_cj : out ≠ cj) (hM1 : MS cyJ cyZ om fz cj N ff cv mvs twi tna kt g) (hkn : 0 ≤ nI N ∧ nI N ≤ 8) (ho2 : g out = .inl (cyJ, 1, .inr (.inl fo2))) (eM : M = fX3_needle (nI N) mvs tna kt twi ff cv (if a1 = 0 then 0 else 1) (lJ a2 a3) (lJ a4 a5)) (hr2 : M.2.2.2.2 = 0 → fo2 0 = M.1.toInt64) (hnx : ∀ (g2 : Nat → va_E) (H2 : Heap) (locs2 : List Loc) (ls : Array Slot), g2 om = .inr (3, [.ref fz, .ref cj, .int M.2.2.2.1, .int mvs, .int tna, .int M.2.2.2.2, .long twi]) → g2 fz = .inl (cyZ, 8, .inl M.2.1) → g2 cj = .inl (cyJ, 56, .inr (.inl M.2.2.1)) → (∀ q : Nat, q ≠ om → q ≠ fz → q ≠ cj → g2 q = g q) → va_P D vwCl (va_pl L g2) H2 → va_D (fun q : Nat => s.heap.size ≤ q) (va_pl L g2) → va_S (fun q : Nat => s.heap.size ≤ q) s.heap H2 locs2 → lv_has ls 8 [(0, .ref b), (1, .ref ob), (2, .ref om), (3, .ref out), (4, .int iv)] → W p l e room_1 s m #[Value.ref b] below meth c H2 locs2 (cells + 3) (slots + 20) Q (F0 m 1208 ls [])) : W p l e room_1 s m #[Value.ref b] below meth c H locs (cells + 3) (slots + 20) Q (F0 m 171 ls [.int M.2.2.2.2]) := by
  have hx := C.hx
  have hb := C.hb
  have hbA : ¬ (fun q : Nat => s.heap.size ≤ q) b := Nat.not_le.mpr C.hbl
  have in1 := hin 1 (by decide)
  have in2 := hin 2 (by decide)
  have in3 := hin 3 (by decide)
  have in4 := hin 4 (by decide)
  have in5 := hin 5 (by decide)
  refine lv_istore (lv' := [(5, .int M.2.2.2.2), (0, .ref b), (1, .ref ob), (2, .ref om), (3, .ref out), (4, .int iv)]) hx hb dL_law_171 hl (by decide) rfl (fun ls hl => ?_)
  refine lv_aload_n hx hb dL_law_173 rfl (lv_at hl 3 rfl) ?_
  refine lv_aload_n hx hb dL_law_174 rfl (lv_at hl 1 rfl) ?_
  refine lv_iload hx hb dL_law_175 (lv_at hl 5 rfl) ?_
  refine lv_iconst (v := 1) hx hb dL_law_177 (by decide) ?_
  refine lv_iadd hx hb dL_law_178 ?_
  refine va_sld hx hb C.hX C.hbl hbA hS in1 dL_law_179 ?_
  rw [← ea1]
  refine lw_bool hx hb dL_law_180 dL_law_183 dL_law_184 dL_law_187 ?_
  refine lv_aload_n hx hb dL_law_188 rfl (lv_at hl 1 rfl) ?_
  refine lv_iload hx hb dL_law_189 (lv_at hl 5 rfl) ?_
  refine lv_iconst (v := 2) hx hb dL_law_191 (by decide) ?_
  refine lv_iadd hx hb dL_law_192 ?_
  refine va_sld hx hb C.hX C.hbl hbA hS in2 dL_law_193 ?_
  rw [← ea2]
  refine lv_i2l hx hb dL_law_194 rfl ?_
  refine lv_bipush (v := 32) hx hb dL_law_195 (by decide) ?_
  refine lv_lshl hx hb dL_law_197 rfl ?_
  refine lv_aload_n hx hb dL_law_198 rfl (lv_at hl 1 rfl) ?_
  refine lv_iload hx hb dL_law_199 (lv_at hl 5 rfl) ?_
  refine lv_iconst (v := 3) hx hb dL_law_201 (by decide) ?_
  refine lv_iadd hx hb dL_law_202 ?_
  refine va_sld hx hb C.hX C.hbl hbA hS in3 dL_law_203 ?_
  rw [← ea3]
  refine lv_i2l hx hb dL_law_204 rfl ?_
  refine lv_ldc2 (v := 4294967295) hx hb C.hown (C.hts (.constantLong RL 63 4294967295) (by decide +kernel)) dL_law_205 ?_
  refine lv_land hx hb dL_law_208 ?_
  refine lv_lor hx hb dL_law_209 ?_
  refine lv_aload_n hx hb dL_law_210 rfl (lv_at hl 1 rfl) ?_
  refine lv_iload hx hb dL_law_211 (lv_at hl 5 rfl) ?_
  refine lv_iconst (v := 4) hx hb dL_law_213 (by decide) ?_
  refine lv_iadd hx hb dL_law_214 ?_
  refine va_sld hx hb C.hX C.hbl hbA hS in4 dL_law_215 ?_
  rw [← ea4]
  refine lv_i2l hx hb dL_law_216 rfl ?_
  refine lv_bipush (v := 32) hx hb dL_law_217 (by decide) ?_
  refine lv_lshl hx hb dL_law_219 rfl ?_
  refine lv_aload_n hx hb dL_law_220 rfl (lv_at hl 1 rfl) ?_
  refine lv_iload hx hb dL_law_221 (lv_at hl 5 rfl) ?_
  refine lv_iconst (v := 5) hx hb dL_law_223 (by decide) ?_
  refine lv_iadd hx hb dL_law_224 ?_
  refine va_sld hx hb C.hX C.hbl hbA hS in5 dL_law_225 ?_
  rw [← ea5]
  refine lv_i2l hx hb dL_law_226 rfl ?_
  refine lv_ldc2 (v := 4294967295) hx hb C.hown (C.hts (.constantLong RL 63 4294967295) (by decide +kernel)) dL_law_227 ?_
  refine lv_land hx hb dL_law_230 ?_
  refine lv_lor hx hb dL_law_231 ?_
  have hm := c_X3_needle l D tys ad L g om fz cj (nI N) mvs tna kt twi ff cv (if a1 = 0 then 0 else 1) (lJ a2 a3) (lJ a4 a5) L_om L_fz L_cj hM1.1 hM1.2.1 hM1.2.2 om_fz om_cj om_fz.symm fz_cj om_cj.symm fz_cj.symm C.htJ C.htZ hkn
  rw [← eM] at hm
  refine mc_V (b := om) (As := [.int (if a1 = 0 then 0 else 1), .long (lJ a2 a3), .long (lJ a4 a5)]) (rest := []) ⟨hx, hb, C.hml, C.hown, C.hts⟩ hm (cwV 3 C.hts gL_law_X3_needle rfl rfl rfl hd_X3_needle ⟨Nat.le_of_ble_eq_true rfl, Nat.le_of_ble_eq_true rfl⟩) (pg_recv C.hK hP L_om hM1.1 rfl) (LW.ww C hP hD hS hLA) C.hXN hS hLA rfl hl.1 rfl (lv_room (Nat.le_of_ble_eq_true rfl)) dL_law_232 hc (fun g2 H2 locs2 hp2 hP hD hS => ?_)
  refine lv_istore (lv' := [(6, .int M.1), (5, .int M.2.2.2.2), (0, .ref b), (1, .ref ob), (2, .ref om), (3, .ref out), (4, .int iv)]) hx hb dL_law_235 hl (by decide) rfl (fun ls hl => ?_)
  refine lv_aload_n hx hb dL_law_237 rfl (lv_at hl 4 rfl) ?_
  refine rc_V (b := om) (r := .int M.2.2.2.2) (As := []) (rest := []) ⟨hx, hb, C.hml, C.hown, C.hts⟩ (c_X3_thrown l D tys ad L g2 om fz cj M.2.2.2.1 mvs tna M.2.2.2.2 twi M.2.1 M.2.2.1 L_om L_fz L_cj hp2.1 hp2.2.1 hp2.2.2.1 C.htJ C.htZ) (cwV 0 C.hts gL_law_X3_thrown rfl rfl rfl hd_X3_thrown ⟨Nat.le_of_ble_eq_true rfl, Nat.le_of_ble_eq_true rfl⟩) (pg_recv C.hK hP L_om hp2.1 rfl) (LW.ww C hP hD hS hLA) C.hXN rfl hl.1 rfl (lv_room (Nat.le_of_ble_eq_true rfl)) dL_law_238 hc ?_
  refine lv_iload hx hb dL_law_241 (lv_at hl 1 rfl) ?_
  refine lv_icmp_eq (tgt := 248) hx hb dL_law_243 (by decide) (fun _ => ?_) (fun cn => absurd rfl cn)
  refine lv_iload hx hb dL_law_248 (lv_at hl 1 rfl) ?_
  refine lv_if_ne (tgt := 265) hx hb dL_law_250 (by decide) (fun c0 => ?_) (fun c0 => ?_)
  case refine_1 =>
    refine lv_goto (tgt := 1208) hx hb dL_law_265 (by decide) ?_
    exact hnx g2 H2 locs2 _ hp2.1 hp2.2.1 hp2.2.2.1 hp2.2.2.2 hP hD hS (lv_sub hl [2, 3, 4, 5, 6] rfl)
  have hg_out : g2 out = .inl (cyJ, 1, .inr (.inl fo2)) := (hp2.2.2.2 out out_om out_fz out_cj).trans ho2
  refine lv_aload_n hx hb dL_law_253 rfl (lv_at hl 5 rfl) ?_
  refine lv_iconst (v := 0) hx hb dL_law_254 (by decide) ?_
  refine pg_lald hx hb C.hK hP 0 L_out hg_out C.htJ (by unfold vp_in; decide) dL_law_255 ?_
  refine lv_iload hx hb dL_law_256 (lv_at hl 0 rfl) ?_
  refine lv_i2l hx hb dL_law_258 rfl ?_
  refine pl_eq (tgt := 265) hx hb dL_law_259 dL_law_260 (by decide) (fun _ => ?_) (fun cn => absurd (hr2 c0) cn)
  refine lv_goto (tgt := 1208) hx hb dL_law_265 (by decide) ?_
  exact hnx g2 H2 locs2 _ hp2.1 hp2.2.1 hp2.2.2.1 hp2.2.2.2 hP hD hS (lv_sub hl [2, 3, 4, 5, 6] rfl)
theorem ST.grow {ob arr out om fz cj : Nat} {L : List Nat} {N : Nat} {kd na : Nat → Nat} {fa : Nat → Option Nat} {ff : Nat → Int32} {cv cv' : Nat → Int64} {i q : Nat} (I : ST ob arr out om fz cj L N kd na fa ff cv) (hq : q ∉ L) (hN : N < 8) (hi : i < 2) (ck : CK i cv' N) (fr : ∀ j, j < 7 * N ∨ 7 * N + 7 ≤ j → cv' j = cv j) :
    ST ob arr out om fz cj (L ++ [q]) (N + 1) (fun k => if k = N then i else kd k) (fun k => if k = N then q else na k) (va_up fa N (some q)) (upd ff N (fI i)) cv' := by
  have inl : ∀ {z : Nat}, z ∈ L → z ∈ L ++ [q] := fun h => List.mem_append_left _ h
  have nq : ∀ {z : Nat}, z ∈ L → q ≠ z := fun h e => hq (e ▸ h)
  refine ST.mk0 (hN) (inl I.L_ob) (inl I.L_arr) (inl I.L_out) (inl I.L_om) (inl I.L_fz) (inl I.L_cj) I.ob_arr I.ob_out I.ob_om I.ob_fz I.ob_cj I.arr_out I.arr_om I.arr_fz I.arr_cj I.out_om I.out_fz I.out_cj I.om_fz I.om_cj I.fz_cj ?_ ?_ ?_ ?_ ?_ ?_
  · intro k hk
    by_cases e : k = N
    · simp [e]
    · simp only [if_neg e]; exact inl (I.L_na k (by omega))
  · intro k hk
    by_cases e : k = N
    · simp only [if_pos e]; exact ⟨nq I.L_ob, nq I.L_arr, nq I.L_out, nq I.L_om, nq I.L_fz, nq I.L_cj⟩
    · simp only [if_neg e]; exact I.na_ne k (by omega)
  · intro k j hk hj h
    by_cases e : k = N
    · by_cases f : j = N
      · omega
      · simp only [if_pos e, if_neg f] at h
        exact absurd h (nq (I.L_na j (by omega)))
    · by_cases f : j = N
      · simp only [if_neg e, if_pos f] at h
        exact absurd h.symm (nq (I.L_na k (by omega)))
      · simp only [if_neg e, if_neg f] at h
        exact I.na_inj k j (by omega) (by omega) h
  · intro k hk
    by_cases e : k = N
    · subst e; rw [va_up_self]; simp
    · rw [va_up_ne _ _ e]; simp only [if_neg e]; exact I.fa_in k (by omega)
  · intro k hk
    rw [va_up_ne _ _ (show k ≠ N by omega)]
    exact I.fa_out k (by omega)
  · intro k hk
    by_cases e : k = N
    · show (if k = N then i else kd k) < 2 ∧ upd ff N (fI i) k = fI (if k = N then i else kd k) ∧ CK (if k = N then i else kd k) cv' k
      rw [if_pos e]; subst e
      exact ⟨hi, by unfold upd; rw [if_pos rfl], ck⟩
    · simp only [if_neg e]
      obtain ⟨a, b, c⟩ := I.kd_ok k hk
      refine ⟨a, ?_, CK_eq (fun w hw => fr _ (by omega)) c⟩
      unfold upd; rw [if_neg e]; exact b
theorem bs_grow {ad : Nat → Nat} {cyN : ClassId} {ob arr out om fz cj : Nat} {L : List Nat} {N : Nat} {kd na : Nat → Nat} {fa : Nat → Option Nat} {ff : Nat → Int32} {cv cv' : Nat → Int64} {i q : Nat} {mvs tna : Int32} {twi : Int64} {g g1 : Nat → va_E} (I : ST ob arr out om fz cj L N kd na fa ff cv) (hB : BS ad cyN ob arr N kd na fa mvs twi tna cv g) (hq : q ∉ L) (fr : ∀ j, j < 7 * N ∨ 7 * N + 7 ≤ j → cv' j = cv j)
    (p1 : g1 q = .inr (1, [.ref (ad i), .long (cv' (7 * N + 0)), .long (cv' (7 * N + 1)), .long (cv' (7 * N + 2)), .long (cv' (7 * N + 3)), .long (cv' (7 * N + 4)), .long (cv' (7 * N + 5)), .long (cv' (7 * N + 6))])) (p2 : g1 ob = .inr (2, [.ref arr, .int (nI (N + 1)), .int mvs, .long twi, .int tna])) (p3 : g1 arr = .inl (cyN, 8, .inr (.inr (.inr (.inr (va_up fa N (some q))))))) (p4 : ∀ q' : Nat, q' ≠ q → q' ≠ ob → q' ≠ arr → q' ≠ out → g1 q' = g q') :
    BS ad cyN ob arr (N + 1) (fun k => if k = N then i else kd k) (fun k => if k = N then q else na k) (va_up fa N (some q)) mvs twi tna cv' g1 := by
  refine ⟨p2, p3, fun k hk => ?_⟩
  by_cases e : k = N
  · subst e
    simp only [if_pos rfl]
    unfold ndC
    simp only [if_pos rfl]
    exact p1
  · simp only [if_neg e]
    obtain ⟨n1, n2, n3, -⟩ := I.na_ne k (by omega)
    rw [p4 (na k) (fun z => hq (z ▸ I.L_na k (by omega))) n1 n2 n3, hB.2.2 k (by omega)]
    unfold ndC
    simp only [if_neg e]
    rw [fr (7 * k + 0) (by omega), fr (7 * k + 1) (by omega), fr (7 * k + 2) (by omega), fr (7 * k + 3) (by omega), fr (7 * k + 4) (by omega), fr (7 * k + 5) (by omega), fr (7 * k + 6) (by omega)]
set_option maxHeartbeats 1000000 in
set_option maxRecDepth 100000 in
theorem t_needle {p : Program} {l : Launch} {e : Env} {s : State} {m : MethodId} {below : List Frame} {meth : Method} {c : Code} {b Lx : Nat} {xs : Nat → Int32} {D : va_G} {tys : List (ClassId × FieldType)} {ad : Nat → Nat} {cyJ cyZ cyN : ClassId} {ob arr out om fz cj : Nat} {L : List Nat} {g : Nat → va_E} {H : Heap} {locs : List Loc} {N : Nat} {kd na : Nat → Nat} {fa : Nat → Option Nat} {ff : Nat → Int32} {cv : Nat → Int64} {mvs tna kt : Int32} {twi : Int64} {iv : Int32} {cells slots : Nat} {Q : State → Prop} {ls : Array Slot} (C : LC p l s m meth c b Lx xs D tys ad cyJ cyZ cyN) (w : LW s D ad cyJ cyZ cyN ob arr out om fz cj L g H locs N kd na fa ff cv mvs tna kt twi) (hl : lv_has ls 8 [(0, .ref b), (1, .ref ob), (2, .ref om), (3, .ref out), (4, .int iv)]) (hin : ∀ k : Int32, (0 ≤ k ∧ k ≤ 5) → vp_in (iv + k) Lx) (hc : cells + 3 ≤ room_1.cells ∧ slots + 20 ≤ room_1.slots) (nx : NX p l e s m below meth c b D ad cyJ cyZ cyN ob arr out om fz cj iv (cells + 3) (slots + 20) Q) : W p l e room_1 s m #[Value.ref b] below meth c H locs cells slots Q (F0 m 108 ls []) := by
  have hx := C.hx
  have hb := C.hb
  have hbA : ¬ (fun q : Nat => s.heap.size ≤ q) b := Nat.not_le.mpr C.hbl
  have in1 := hin 1 (by decide)
  obtain ⟨a1, ea1⟩ : ∃ z : Int32, z = xs (iv + 1).toNatClampNeg := ⟨_, rfl⟩
  have in2 := hin 2 (by decide)
  obtain ⟨a2, ea2⟩ : ∃ z : Int32, z = xs (iv + 2).toNatClampNeg := ⟨_, rfl⟩
  have in3 := hin 3 (by decide)
  obtain ⟨a3, ea3⟩ : ∃ z : Int32, z = xs (iv + 3).toNatClampNeg := ⟨_, rfl⟩
  have in4 := hin 4 (by decide)
  obtain ⟨a4, ea4⟩ : ∃ z : Int32, z = xs (iv + 4).toNatClampNeg := ⟨_, rfl⟩
  have in5 := hin 5 (by decide)
  obtain ⟨a5, ea5⟩ : ∃ z : Int32, z = xs (iv + 5).toNatClampNeg := ⟨_, rfl⟩
  refine lv_aload_n hx hb dL_law_108 rfl (lv_at hl 1 rfl) ?_
  refine lv_aload_n hx hb dL_law_109 rfl (lv_at hl 0 rfl) ?_
  refine lv_iload hx hb dL_law_110 (lv_at hl 4 rfl) ?_
  refine lv_iconst (v := 1) hx hb dL_law_112 (by decide) ?_
  refine lv_iadd hx hb dL_law_113 ?_
  refine va_sld hx hb C.hX C.hbl hbA w.hS in1 dL_law_114 ?_
  rw [← ea1]
  refine lw_bool hx hb dL_law_115 dL_law_118 dL_law_119 dL_law_122 ?_
  refine lv_aload_n hx hb dL_law_123 rfl (lv_at hl 0 rfl) ?_
  refine lv_iload hx hb dL_law_124 (lv_at hl 4 rfl) ?_
  refine lv_iconst (v := 2) hx hb dL_law_126 (by decide) ?_
  refine lv_iadd hx hb dL_law_127 ?_
  refine va_sld hx hb C.hX C.hbl hbA w.hS in2 dL_law_128 ?_
  rw [← ea2]
  refine lv_i2l hx hb dL_law_129 rfl ?_
  refine lv_bipush (v := 32) hx hb dL_law_130 (by decide) ?_
  refine lv_lshl hx hb dL_law_132 rfl ?_
  refine lv_aload_n hx hb dL_law_133 rfl (lv_at hl 0 rfl) ?_
  refine lv_iload hx hb dL_law_134 (lv_at hl 4 rfl) ?_
  refine lv_iconst (v := 3) hx hb dL_law_136 (by decide) ?_
  refine lv_iadd hx hb dL_law_137 ?_
  refine va_sld hx hb C.hX C.hbl hbA w.hS in3 dL_law_138 ?_
  rw [← ea3]
  refine lv_i2l hx hb dL_law_139 rfl ?_
  refine lv_ldc2 (v := 4294967295) hx hb C.hown (C.hts (.constantLong RL 63 4294967295) (by decide +kernel)) dL_law_140 ?_
  refine lv_land hx hb dL_law_143 ?_
  refine lv_lor hx hb dL_law_144 ?_
  refine lv_aload_n hx hb dL_law_145 rfl (lv_at hl 0 rfl) ?_
  refine lv_iload hx hb dL_law_146 (lv_at hl 4 rfl) ?_
  refine lv_iconst (v := 4) hx hb dL_law_148 (by decide) ?_
  refine lv_iadd hx hb dL_law_149 ?_
  refine va_sld hx hb C.hX C.hbl hbA w.hS in4 dL_law_150 ?_
  rw [← ea4]
  refine lv_i2l hx hb dL_law_151 rfl ?_
  refine lv_bipush (v := 32) hx hb dL_law_152 (by decide) ?_
  refine lv_lshl hx hb dL_law_154 rfl ?_
  refine lv_aload_n hx hb dL_law_155 rfl (lv_at hl 0 rfl) ?_
  refine lv_iload hx hb dL_law_156 (lv_at hl 4 rfl) ?_
  refine lv_iconst (v := 5) hx hb dL_law_158 (by decide) ?_
  refine lv_iadd hx hb dL_law_159 ?_
  refine va_sld hx hb C.hX C.hbl hbA w.hS in5 dL_law_160 ?_
  rw [← ea5]
  refine lv_i2l hx hb dL_law_161 rfl ?_
  refine lv_ldc2 (v := 4294967295) hx hb C.hown (C.hts (.constantLong RL 63 4294967295) (by decide +kernel)) dL_law_162 ?_
  refine lv_land hx hb dL_law_165 ?_
  refine lv_lor hx hb dL_law_166 ?_
  refine lv_aload_n hx hb dL_law_167 rfl (lv_at hl 3 rfl) ?_
  obtain ⟨fo, hO⟩ := w.hO
  have hN := w.I.hN
  obtain ⟨i, hi, hix, hfi⟩ : ∃ i : Nat, i < 2 ∧ (i = if (if a1 = 0 then (0 : Int32) else 1) = 0 then 1 else 0) ∧ fI i = if a1 = 0 then 0 else 1 := by
    by_cases z : a1 = 0
    · exact ⟨1, by decide, by simp [z], by simp [z, fI]⟩
    · exact ⟨0, by decide, by simp [z], by simp [z, fI]⟩
  obtain ⟨M, eM⟩ : ∃ z, z = fX3_needle (nI N) mvs tna kt twi ff cv (if a1 = 0 then 0 else 1) (lJ a2 a3) (lJ a4 a5) := ⟨_, rfl⟩
  obtain ⟨ne1, ne2⟩ := needle_eq (kc := mvs) (kr := tna) (kt := kt) (kw := twi) (ff := ff) (cv := cv) hi hN (lJ a2 a3) (lJ a4 a5) _ rfl
  rw [hfi, ← eM] at ne1 ne2
  have hkn8 : nI N < 8 → vp_in (nI N) 8 := fun z => vp_in_nI ((nI_ltI (by omega) (by decide)).mp (z : nI N < nI 8)) (by decide)
  refine hu_N (As := [.ref ob, .int (if a1 = 0 then 0 else 1), .long (lJ a2 a3), .long (lJ a4 a5), .ref out]) (rest := []) ⟨hx, hb, C.hml, C.hown, C.hts⟩ (c_L_needle l C.hfl D tys ad L g H.size ob arr out (nI N) mvs twi tna fa i (if a1 = 0 then 0 else 1) (lJ a2 a3) (lJ a4 a5) fo hi hix w.I.L_ob w.I.L_arr w.hB.1 w.hB.2.1 w.I.ob_arr.symm C.htN hkn8 w.I.L_out hO C.htJ w.I.ob_out.symm w.I.arr_out.symm) (vx_cwSW 5 C.hts gL_law_L_needle rfl rfl rfl hd_L_needle ⟨Nat.le_of_ble_eq_true rfl, Nat.le_of_ble_eq_true rfl⟩) (LW.ww C w.hP w.hD w.hS w.hLA) C.hXN w.hS w.hLA (fun _ h => h) rfl hl.1 rfl (lv_room (Nat.le_of_ble_eq_true rfl)) dL_law_168 hc (fun hc0 q g1 H1 locs1 hq hp hLA2 hP hD hS => ?_) (fun hc0 H1 locs1 hP hD hS => ?_)
  · obtain ⟨hN8, cv', e1, ck, fr, f1, f2, f3, f4⟩ := ne1 hc0
    obtain ⟨p1, p2, p3, p5, p4⟩ := hp
    rw [f1, f2, f3] at p1
    rw [f1, f2, f3] at f4
    rw [f4] at p1
    rw [nI_clamp (show N < 2 ^ 31 by omega)] at p3
    rw [nI_1] at p2
    have hs : nI N + 1 - 1 = nI N := by rw [nI_1, nI_pred]
    rw [hs] at p5
    have I := w.I
    have nq : ∀ {z : Nat}, z ∈ L → z ≠ q := fun h z => hq (z ▸ h)
    have inl : ∀ {z : Nat}, z ∈ L → z ∈ L ++ [q] := fun h => List.mem_append_left _ h
    have I2 := I.grow hq hN8 hi ck fr
    rw [hfi] at I2
    have B2 := bs_grow I w.hB hq fr p1 p2 p3 p4
    rw [hc0]
    have kM : (.int (nI (0 - 1)) : Value) = .int M.2.2.2.2 := by rw [e1]; rfl
    rw [kM]
    refine t_needle2 (fo2 := vp_updL fo 0 (nI N).toInt64) ea1 ea2 ea3 ea4 ea5 C hl hin hc hP hD hS hLA2 (inl I.L_om) (inl I.L_fz) (inl I.L_cj) (inl I.L_out) I.om_fz I.om_cj I.fz_cj I.out_om I.out_fz I.out_cj (ms_of w.hM (p4 om (nq I.L_om) I.ob_om.symm I.arr_om.symm I.out_om.symm) (p4 fz (nq I.L_fz) I.ob_fz.symm I.arr_fz.symm I.out_fz.symm) (p4 cj (nq I.L_cj) I.ob_cj.symm I.arr_cj.symm I.out_cj.symm)) I.kn p5 eM (fun _ => ?_) (fun g2 H2 locs2 ls2 r1 r2 r3 r4 hP hD hS hl => ?_)
    · rw [e1]; unfold vp_updL; rw [if_pos rfl]
    · rw [e1] at r1 r2 r3
      have w2 : LW s D ad cyJ cyZ cyN ob arr out om fz cj (L ++ [q]) g2 H2 locs2 (N + 1) _ _ _ _ cv' mvs tna 0 twi := ⟨hP, hD, hS, hLA2, I2, bs_keep I2 B2 r4, ⟨r1, r2, r3⟩, ⟨_, (r4 out I.out_om I.out_fz I.out_cj).trans p5⟩⟩
      exact nx _ _ _ _ _ _ _ _ _ _ _ _ _ _ _ w2 hl
  · obtain ⟨hcc, e1⟩ := ne2 hc0
    have I := w.I
    have kM : (.int (nI (fX2_needle i (nI N) (lJ a2 a3) (lJ a4 a5) - 1)) : Value) = .int M.2.2.2.2 := by rw [e1]
    rw [kM]
    refine t_needle2 (fo2 := fo) ea1 ea2 ea3 ea4 ea5 C hl hin hc hP hD hS w.hLA I.L_om I.L_fz I.L_cj I.L_out I.om_fz I.om_cj I.fz_cj I.out_om I.out_fz I.out_cj w.hM I.kn hO eM (fun z => ?_) (fun g2 H2 locs2 ls2 r1 r2 r3 r4 hP hD hS hl => ?_)
    · rw [e1] at z
      exact absurd z (nI_no (by omega) (by omega))
    · rw [e1] at r1 r2 r3
      have w2 : LW s D ad cyJ cyZ cyN ob arr out om fz cj L g2 H2 locs2 N kd na fa ff cv mvs tna _ twi := ⟨hP, hD, hS, w.hLA, I, bs_keep I w.hB r4, ⟨r1, r2, r3⟩, ⟨_, (r4 out I.out_om I.out_fz I.out_cj).trans hO⟩⟩
      exact nx _ _ _ _ _ _ _ _ _ _ _ _ _ _ _ w2 hl
