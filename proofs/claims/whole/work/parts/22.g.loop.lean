/-! THE CLAIM OUT OF ONE WALK OF THE LAW'S BODY. Your part is whole_start (and what it stands on); all else here is the same for every law, but numbers. -/
def R_law : String := "NeedleBoardLaw"
def lw_P (b : Addr) (xs : List Int32) (args : Array Value) (s : State) : Prop := args = #[.ref b] ∧ s.IntsAt b xs ∧ xs.length ≤ 3072 ∧ (Jvm.Cond.and given_1 narrow_1).before args s = true
def lw_Q (_ : Array Value) (s : State) (o : Outcome) (t : State) : Prop := o = .returned (some (.int 1)) ∧ Framed s o t [] 601024 7293034
def lw_Z (below : List Frame) (a : Array Value) (s : State) : State → Prop := fun t => ∃ o, t.status = .running ∧ Ended t below o ∧ lw_Q a s o t
/-- the law's own end, with 1 on the stack, nothing written that was there before, its room as the claim has it -/
theorem lw_ret {p : Program} {l : Launch} {e : Env} {s : State} {m : MethodId} {below : List Frame} {meth : Method} {c : Code} {b : Nat} (hx : p.tables.exec = Jvm.exec) (hb : c.code = code) (hr : meth.sig.returnType = ret) (hlocks : meth.locks = false) {pc : Nat} {H : Heap} {ls : Array Slot} (hdg : decode code pc = .ok (.ireturn, 1)) : W p l e room_1 s m #[Value.ref b] below meth c H [] 601024 7293034 (lw_Z below #[Value.ref b] s) (F0 m pc ls [.int 1]) := by
  intro T hT X
  obtain ⟨fs, hret, hrun, hended, hW, hframe⟩ := X.leave (v := some (.int 1)) (hlocks := hlocks) (fun h => by rw [hr] at h; cases h)
  have hmeth' : T.vm.method? m = some meth := X.method'
  refine ⟨T.setFrames fs, ?_, .returned (some (.int 1)), hrun, hended, rfl, ⟨_, rfl⟩, hW, hframe⟩
  jvm_step X.here [X.here.top, hx, hb, hdg, hmeth', hr, ret, narrow_b1]
  (try refine ⟨rfl, ?_⟩); (try refine ⟨rfl, ?_⟩)
  first | (intro acts; rw [hret _ acts rfl rfl rfl]) | rw [hret _ _ rfl rfl rfl]
  exact Steps.refl _
/-- what holds at the law's entry: the machine, the code, the tables' words (any of lw_tbl by 'hts w (by decide +kernel)'), the script of L ints xs at the cell b, what the Statement gives of the start (any of its parts by flat_of_before) -/
def lw_At (p : Program) (s : State) (m : MethodId) (meth : Method) (c : Code) (b L : Nat) (xs : Nat → Int32) : Prop :=
  p.tables.exec = Jvm.exec ∧ c.code = code ∧ meth.sig.returnType = ret ∧ c.maxLocals = 8 ∧ s.vm.findClass R_law = some m.cls ∧ (∀ w ∈ lw_tbl, w.before #[Value.ref b] s = true) ∧ va_X b L xs s s.heap ∧ b < s.heap.size ∧ meth.locks = false ∧ (Jvm.Cond.and given_1 narrow_1).before #[Value.ref b] s = true
theorem and15 (a : Int32) : ∃ k : Nat, k < 16 ∧ a &&& 15 = nI k := by
  refine ⟨(a.toBitVec &&& 15#32).toNat, ?_, ?_⟩
  · rw [BitVec.toNat_and]
    exact Nat.lt_of_le_of_lt Nat.and_le_right (by decide)
  · apply Int32.toBitVec_inj.1
    show (a &&& 15).toBitVec = BitVec.ofNat 32 (a.toBitVec &&& 15#32).toNat
    rw [BitVec.ofNat_toNat, BitVec.setWidth_eq]
    rfl
theorem six_le {Lx j : Nat} (hL : Lx ≤ 3072) (hj : 6 * j ≤ Lx) (h : ¬ Int32.ofNat Lx - 6 < nI (6 * j)) : 6 * j + 6 ≤ Lx := by
  apply Nat.le_of_not_lt
  intro c
  apply h
  by_cases d : 6 ≤ Lx
  · have e : Int32.ofNat Lx - 6 = nI (Lx - 6) := nI_sub (a := Lx) (b := 6) d
    rw [e]
    exact nI_lt (by omega) (by omega)
  · have hp := nI_pos' (n := 6 * j) (by omega)
    have hneg : Int32.ofNat Lx - 6 < 0 := by
      rcases (show Lx = 0 ∨ Lx = 1 ∨ Lx = 2 ∨ Lx = 3 ∨ Lx = 4 ∨ Lx = 5 by omega) with r | r | r | r | r | r <;> (rw [r]; decide)
    exact Int32.lt_of_lt_of_le hneg hp
set_option maxHeartbeats 1000000 in
set_option maxRecDepth 100000 in
/-- the law's loop -/
theorem law_loop {p : Program} {l : Launch} {e : Env} {s : State} {m : MethodId} {below : List Frame} {meth : Method} {c : Code} {b Lx : Nat} {xs : Nat → Int32} {D : va_G} {tys : List (ClassId × FieldType)} {ad : Nat → Nat} {cyJ cyZ cyN : ClassId} {ob arr out om fz cj : Nat} (hL : Lx ≤ 3072) (C : LC p l s m meth c b Lx xs D tys ad cyJ cyZ cyN) (hr : meth.sig.returnType = ret) (hlocks : meth.locks = false) (c0 s0 : Nat) (hc0 : c0 ≤ 1000) (hs0 : s0 ≤ 10000) :
    ∀ (n j : Nat), Lx < 6 * (j + n) + 6 → 6 * j ≤ Lx → ∀ (L : List Nat) (g : Nat → va_E) (H : Heap) (locs : List Loc) (N : Nat) (kd na : Nat → Nat) (fa : Nat → Option Nat) (ff : Nat → Int32) (cv : Nat → Int64) (mvs tna kt : Int32) (twi : Int64) (ls : Array Slot), LW s D ad cyJ cyZ cyN ob arr out om fz cj L g H locs N kd na fa ff cv mvs tna kt twi → lv_has ls 8 [(0, .ref b), (1, .ref ob), (2, .ref om), (3, .ref out), (4, .int (nI (6 * j)))] →
      W p l e room_1 s m #[Value.ref b] below meth c H locs (c0 + 3 * j) (s0 + 20 * j) (lw_Z below #[Value.ref b] s) (F0 m 23 ls []) := by
  have hx := C.hx
  have hb := C.hb
  have hbA : ¬ (fun q : Nat => s.heap.size ≤ q) b := Nat.not_le.mpr C.hbl
  have rc : room_1.cells = 601024 := rfl
  have rs : room_1.slots = 7293034 := rfl
  intro n
  induction n with
  | zero =>
    intro j h1 h2 L g H locs N kd na fa ff cv mvs tna kt twi ls w hl
    refine lv_iload hx hb dL_law_23 (lv_at hl 4 rfl) ?_
    refine lv_aload_n hx hb dL_law_25 rfl (lv_at hl 0 rfl) ?_
    refine va_slen hx hb C.hX C.hbl hbA w.hS dL_law_26 ?_
    refine lv_bipush (v := 6) hx hb dL_law_27 (by decide) ?_
    refine lv_isub hx hb dL_law_29 ?_
    refine lv_icmp_gt (tgt := 1214) hx hb dL_law_30 (by decide) (fun cg => ?_) (fun cg => absurd (six_le hL h2 cg) (by omega))
    refine lv_iconst (v := 1) hx hb dL_law_1214 (by decide) ?_
    refine va_forget (fun q hq => w.hS.2.2 q hq) ?_
    refine W.widen (k := 601024) (n := 7293034) (by omega) (by omega) ?_
    exact lw_ret hx hb hr hlocks dL_law_1215
  | succ n ih =>
    intro j h1 h2 L g H locs N kd na fa ff cv mvs tna kt twi ls w hl
    refine lv_iload hx hb dL_law_23 (lv_at hl 4 rfl) ?_
    refine lv_aload_n hx hb dL_law_25 rfl (lv_at hl 0 rfl) ?_
    refine va_slen hx hb C.hX C.hbl hbA w.hS dL_law_26 ?_
    refine lv_bipush (v := 6) hx hb dL_law_27 (by decide) ?_
    refine lv_isub hx hb dL_law_29 ?_
    refine lv_icmp_gt (tgt := 1214) hx hb dL_law_30 (by decide) (fun cg => ?_) (fun cg => ?_)
    · refine lv_iconst (v := 1) hx hb dL_law_1214 (by decide) ?_
      refine va_forget (fun q hq => w.hS.2.2 q hq) ?_
      refine W.widen (k := 601024) (n := 7293034) (by omega) (by omega) ?_
      exact lw_ret hx hb hr hlocks dL_law_1215
    have h3 := six_le hL h2 cg
    have hin : ∀ k : Int32, (0 ≤ k ∧ k ≤ 5) → vp_in (nI (6 * j) + k) Lx := by
      intro k hk
      obtain ⟨q, hq, rfl⟩ := nI_of2 (x := k) (M := 5) (n := 5) rfl (Int32.not_lt.mpr hk.1) hk.2
      rw [nI_add]
      exact vp_in_nI (by omega) (by omega)
    have hin0 : vp_in (nI (6 * j)) Lx := vp_in_nI (by omega) (by omega)
    have hcc : (c0 + 3 * j) + 3 ≤ room_1.cells ∧ (s0 + 20 * j) + 20 ≤ room_1.slots := by rw [rc, rs]; omega
    have nx : NX p l e s m below meth c b D ad cyJ cyZ cyN ob arr out om fz cj (nI (6 * j)) ((c0 + 3 * j) + 3) ((s0 + 20 * j) + 20) (lw_Z below #[Value.ref b] s) := by
      intro L g H locs N kd na fa ff cv mvs tna kt twi ls w hl
      refine lv_iinc (v := nI (6 * (j + 1))) (lv' := [(4, .int (nI (6 * (j + 1)))), (0, .ref b), (1, .ref ob), (2, .ref om), (3, .ref out)]) hx hb dL_law_1208 hl (k := 4) rfl (nI_add (6 * j) 6) (by decide) rfl (fun ls hl => ?_)
      refine lv_goto (tgt := 23) hx hb dL_law_1211 (by decide) ?_
      have e1 : (c0 + 3 * j) + 3 = c0 + 3 * (j + 1) := by omega
      have e2 : (s0 + 20 * j) + 20 = s0 + 20 * (j + 1) := by omega
      rw [e1, e2]
      exact ih (j + 1) (by omega) (by omega) L g H locs N kd na fa ff cv mvs tna kt twi ls w (lv_sub hl [1, 2, 3, 4, 0] rfl)
    refine lv_aload_n hx hb dL_law_33 rfl (lv_at hl 0 rfl) ?_
    refine lv_iload hx hb dL_law_34 (lv_at hl 4 rfl) ?_
    refine va_sld hx hb C.hX C.hbl hbA w.hS hin0 dL_law_36 ?_
    refine lv_bipush (v := 15) hx hb dL_law_37 (by decide) ?_
    refine lv_iand hx hb dL_law_39 ?_
    obtain ⟨k, hk, ek⟩ := and15 (xs (nI (6 * j)).toNatClampNeg)
    rw [ek]
    have dft : W p l e room_1 s m #[Value.ref b] below meth c H locs (c0 + 3 * j) (s0 + 20 * j) (lw_Z below #[Value.ref b] s) (F0 m 1208 ls []) :=
      W.widen (k := (c0 + 3 * j) + 3) (n := (s0 + 20 * j) + 20) (by omega) (by omega) (nx L g H locs N kd na fa ff cv mvs tna kt twi ls w hl)
    rcases (show k = 0 ∨ k = 1 ∨ k = 2 ∨ k = 3 ∨ k = 4 ∨ k = 5 ∨ k = 6 ∨ k = 7 ∨ k = 8 ∨ k = 9 ∨ k = 10 ∨ k = 11 ∨ k = 12 ∨ k = 13 ∨ k = 14 ∨ k = 15 by omega) with rfl | rfl | rfl | rfl | rfl | rfl | rfl | rfl | rfl | rfl | rfl | rfl | rfl | rfl | rfl | rfl
    · refine lv_tableIn (tgt := 108) (off := 68) hx hb dL_law_40 (by decide) (by decide) (by decide +kernel) (by decide) ?_
      exact t_needle C w hl hin hcc nx
    · refine lv_tableIn (tgt := 268) (off := 228) hx hb dL_law_40 (by decide) (by decide) (by decide +kernel) (by decide) ?_
      exact t_put C w hl hin hcc nx
    · refine lv_tableIn (tgt := 367) (off := 327) hx hb dL_law_40 (by decide) (by decide) (by decide +kernel) (by decide) ?_
      exact t_turn C w hl hin hcc nx
    · refine lv_tableIn (tgt := 466) (off := 426) hx hb dL_law_40 (by decide) (by decide) (by decide +kernel) (by decide) ?_
      exact t_damp C w hl hin hcc nx
    · refine lv_tableIn (tgt := 565) (off := 525) hx hb dL_law_40 (by decide) (by decide) (by decide +kernel) (by decide) ?_
      exact t_pull C w hl hin hcc nx
    · refine lv_tableIn (tgt := 672) (off := 632) hx hb dL_law_40 (by decide) (by decide) (by decide +kernel) (by decide) ?_
      exact t_rest C w hl hin hcc nx
    · refine lv_tableIn (tgt := 739) (off := 699) hx hb dL_law_40 (by decide) (by decide) (by decide +kernel) (by decide) ?_
      exact t_face C w hl hin hcc nx
    · refine lv_tableIn (tgt := 806) (off := 766) hx hb dL_law_40 (by decide) (by decide) (by decide +kernel) (by decide) ?_
      exact t_read C w hl hin hcc nx
    · refine lv_tableIn (tgt := 873) (off := 833) hx hb dL_law_40 (by decide) (by decide) (by decide +kernel) (by decide) ?_
      exact t_between C w hl hin hcc nx
    · refine lv_tableIn (tgt := 952) (off := 912) hx hb dL_law_40 (by decide) (by decide) (by decide +kernel) (by decide) ?_
      exact t_order C w hl hin hcc nx
    · refine lv_tableIn (tgt := 1020) (off := 980) hx hb dL_law_40 (by decide) (by decide) (by decide +kernel) (by decide) ?_
      exact t_back C w hl hin hcc nx
    · refine lv_tableIn (tgt := 1056) (off := 1016) hx hb dL_law_40 (by decide) (by decide) (by decide +kernel) (by decide) ?_
      exact t_tally C w hl hin hcc nx
    · refine lv_tableIn (tgt := 1183) (off := 1143) hx hb dL_law_40 (by decide) (by decide) (by decide +kernel) (by decide) ?_
      exact t_count C w hl hin hcc nx
    · exact lv_tableOut (tgt := 1208) hx hb dL_law_40 (Or.inr (by decide)) (by decide) dft
    · exact lv_tableOut (tgt := 1208) hx hb dL_law_40 (Or.inr (by decide)) (by decide) dft
    · exact lv_tableOut (tgt := 1208) hx hb dL_law_40 (Or.inr (by decide)) (by decide) dft
