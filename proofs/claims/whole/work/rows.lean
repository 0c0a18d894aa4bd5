section
-- ===== PART A: goes FIRST, ahead of the names: the tables' words, and 'selects' of the private methods out of them =====
/-- a private method of a class that the tables say can be made, by its rows of tables_1 -/
def lw_okq (q : MethodName × Nat) : Prop := (q.1.cls ≠ "java/lang/invoke/MethodHandle" ∧ q.1.cls ≠ "java/lang/invoke/VarHandle") ∧ Cond.instantiable q.1.cls q.2 ∈ tables_1 ∧ Cond.privateMethod q.1 ∈ tables_1 ∧ Cond.instanceMethod q.1 ∈ tables_1
theorem lw_p0 : lw_okq (⟨"NeedleBoard", "countNeedles", "(I)I"⟩, 5) := ⟨⟨by decide +kernel, by decide +kernel⟩, List.mem_of_getElem? (i := 16) (by decide +kernel), List.mem_of_getElem? (i := 46) (by decide +kernel), List.mem_of_getElem? (i := 47) (by decide +kernel)⟩
theorem lw_p1 : lw_okq (⟨"java/lang/Throwable", "fillInStackTrace", "(I)Ljava/lang/Throwable;"⟩, 6) := ⟨⟨by decide +kernel, by decide +kernel⟩, List.mem_of_getElem? (i := 124) (by decide +kernel), List.mem_of_getElem? (i := 122) (by decide +kernel), List.mem_of_getElem? (i := 123) (by decide +kernel)⟩
theorem lw_p2 : lw_okq (⟨"NeedleBoard$Kind", "rankOf", "(J)J"⟩, 9) := ⟨⟨by decide +kernel, by decide +kernel⟩, List.mem_of_getElem? (i := 160) (by decide +kernel), List.mem_of_getElem? (i := 158) (by decide +kernel), List.mem_of_getElem? (i := 159) (by decide +kernel)⟩
theorem lw_p3 : lw_okq (⟨"NeedleBoard$Needle", "withinLimits", "(J)J"⟩, 8) := ⟨⟨by decide +kernel, by decide +kernel⟩, List.mem_of_getElem? (i := 179) (by decide +kernel), List.mem_of_getElem? (i := 189) (by decide +kernel), List.mem_of_getElem? (i := 190) (by decide +kernel)⟩
theorem lw_p4 : lw_okq (⟨"NeedleBoard", "needleAt", "(I)LNeedleBoard$Needle;"⟩, 5) := ⟨⟨by decide +kernel, by decide +kernel⟩, List.mem_of_getElem? (i := 16) (by decide +kernel), List.mem_of_getElem? (i := 243) (by decide +kernel), List.mem_of_getElem? (i := 244) (by decide +kernel)⟩
theorem lw_p5 : lw_okq (⟨"NeedleBoard$Kind", "sumByLarger", "(JJ)J"⟩, 9) := ⟨⟨by decide +kernel, by decide +kernel⟩, List.mem_of_getElem? (i := 160) (by decide +kernel), List.mem_of_getElem? (i := 290) (by decide +kernel), List.mem_of_getElem? (i := 291) (by decide +kernel)⟩
theorem lw_p6 : lw_okq (⟨"NeedleBoard$Kind", "exponentOf", "(J)I"⟩, 9) := ⟨⟨by decide +kernel, by decide +kernel⟩, List.mem_of_getElem? (i := 160) (by decide +kernel), List.mem_of_getElem? (i := 294) (by decide +kernel), List.mem_of_getElem? (i := 295) (by decide +kernel)⟩
theorem lw_p7 : lw_okq (⟨"NeedleBoard$Kind", "significandOf", "(J)J"⟩, 9) := ⟨⟨by decide +kernel, by decide +kernel⟩, List.mem_of_getElem? (i := 160) (by decide +kernel), List.mem_of_getElem? (i := 301) (by decide +kernel), List.mem_of_getElem? (i := 302) (by decide +kernel)⟩
theorem lw_p8 : lw_okq (⟨"NeedleBoard$Kind", "sizeFrom", "(JI)J"⟩, 9) := ⟨⟨by decide +kernel, by decide +kernel⟩, List.mem_of_getElem? (i := 160) (by decide +kernel), List.mem_of_getElem? (i := 308) (by decide +kernel), List.mem_of_getElem? (i := 309) (by decide +kernel)⟩
theorem lw_p9 : lw_okq (⟨"NeedleBoard$Kind", "wholeOfPart", "(JI)J"⟩, 9) := ⟨⟨by decide +kernel, by decide +kernel⟩, List.mem_of_getElem? (i := 160) (by decide +kernel), List.mem_of_getElem? (i := 363) (by decide +kernel), List.mem_of_getElem? (i := 364) (by decide +kernel)⟩
theorem lw_p10 : lw_okq (⟨"NeedleBoard$Kind", "wholeOfMixed", "(JII)J"⟩, 9) := ⟨⟨by decide +kernel, by decide +kernel⟩, List.mem_of_getElem? (i := 160) (by decide +kernel), List.mem_of_getElem? (i := 370) (by decide +kernel), List.mem_of_getElem? (i := 371) (by decide +kernel)⟩
theorem lw_p11 : lw_okq (⟨"NeedleBoardModel", "set", "(IIJ)V"⟩, 7) := ⟨⟨by decide +kernel, by decide +kernel⟩, List.mem_of_getElem? (i := 446) (by decide +kernel), List.mem_of_getElem? (i := 501) (by decide +kernel), List.mem_of_getElem? (i := 502) (by decide +kernel)⟩
theorem lw_p12 : lw_okq (⟨"NeedleBoardModel", "fresh", "(I)V"⟩, 7) := ⟨⟨by decide +kernel, by decide +kernel⟩, List.mem_of_getElem? (i := 446) (by decide +kernel), List.mem_of_getElem? (i := 505) (by decide +kernel), List.mem_of_getElem? (i := 506) (by decide +kernel)⟩
theorem lw_p13 : lw_okq (⟨"NeedleBoardModel", "within", "(IJ)J"⟩, 7) := ⟨⟨by decide +kernel, by decide +kernel⟩, List.mem_of_getElem? (i := 446) (by decide +kernel), List.mem_of_getElem? (i := 509) (by decide +kernel), List.mem_of_getElem? (i := 510) (by decide +kernel)⟩
theorem lw_p14 : lw_okq (⟨"NeedleBoardModel", "get", "(II)J"⟩, 7) := ⟨⟨by decide +kernel, by decide +kernel⟩, List.mem_of_getElem? (i := 446) (by decide +kernel), List.mem_of_getElem? (i := 513) (by decide +kernel), List.mem_of_getElem? (i := 514) (by decide +kernel)⟩
theorem lw_p15 : lw_okq (⟨"NeedleBoardModel", "may", "(IJ)Z"⟩, 7) := ⟨⟨by decide +kernel, by decide +kernel⟩, List.mem_of_getElem? (i := 446) (by decide +kernel), List.mem_of_getElem? (i := 521) (by decide +kernel), List.mem_of_getElem? (i := 522) (by decide +kernel)⟩
def lw_privs_1 : List (MethodName × Nat) := [(⟨"NeedleBoard", "countNeedles", "(I)I"⟩, 5), (⟨"java/lang/Throwable", "fillInStackTrace", "(I)Ljava/lang/Throwable;"⟩, 6), (⟨"NeedleBoard$Kind", "rankOf", "(J)J"⟩, 9), (⟨"NeedleBoard$Needle", "withinLimits", "(J)J"⟩, 8), (⟨"NeedleBoard", "needleAt", "(I)LNeedleBoard$Needle;"⟩, 5), (⟨"NeedleBoard$Kind", "sumByLarger", "(JJ)J"⟩, 9), (⟨"NeedleBoard$Kind", "exponentOf", "(J)I"⟩, 9), (⟨"NeedleBoard$Kind", "significandOf", "(J)J"⟩, 9), (⟨"NeedleBoard$Kind", "sizeFrom", "(JI)J"⟩, 9), (⟨"NeedleBoard$Kind", "wholeOfPart", "(JI)J"⟩, 9), (⟨"NeedleBoard$Kind", "wholeOfMixed", "(JII)J"⟩, 9), (⟨"NeedleBoardModel", "set", "(IIJ)V"⟩, 7), (⟨"NeedleBoardModel", "fresh", "(I)V"⟩, 7), (⟨"NeedleBoardModel", "within", "(IJ)J"⟩, 7), (⟨"NeedleBoardModel", "get", "(II)J"⟩, 7), (⟨"NeedleBoardModel", "may", "(IJ)Z"⟩, 7)]
theorem lw_r1 : ∀ q ∈ lw_privs_1, lw_okq q := List.forall_mem_cons.mpr ⟨lw_p0, List.forall_mem_cons.mpr ⟨lw_p1, List.forall_mem_cons.mpr ⟨lw_p2, List.forall_mem_cons.mpr ⟨lw_p3, List.forall_mem_cons.mpr ⟨lw_p4, List.forall_mem_cons.mpr ⟨lw_p5, List.forall_mem_cons.mpr ⟨lw_p6, List.forall_mem_cons.mpr ⟨lw_p7, List.forall_mem_cons.mpr ⟨lw_p8, List.forall_mem_cons.mpr ⟨lw_p9, List.forall_mem_cons.mpr ⟨lw_p10, List.forall_mem_cons.mpr ⟨lw_p11, List.forall_mem_cons.mpr ⟨lw_p12, List.forall_mem_cons.mpr ⟨lw_p13, List.forall_mem_cons.mpr ⟨lw_p14, List.forall_mem_cons.mpr ⟨lw_p15, fun _ h => absurd h List.not_mem_nil⟩⟩⟩⟩⟩⟩⟩⟩⟩⟩⟩⟩⟩⟩⟩⟩
theorem lw_p16 : lw_okq (⟨"NeedleBoardModel", "isThere", "(I)Z"⟩, 7) := ⟨⟨by decide +kernel, by decide +kernel⟩, List.mem_of_getElem? (i := 446) (by decide +kernel), List.mem_of_getElem? (i := 525) (by decide +kernel), List.mem_of_getElem? (i := 526) (by decide +kernel)⟩
theorem lw_p17 : lw_okq (⟨"NeedleBoardModel", "becomes", "(IJ)J"⟩, 7) := ⟨⟨by decide +kernel, by decide +kernel⟩, List.mem_of_getElem? (i := 446) (by decide +kernel), List.mem_of_getElem? (i := 529) (by decide +kernel), List.mem_of_getElem? (i := 530) (by decide +kernel)⟩
def lw_privs_2 : List (MethodName × Nat) := [(⟨"NeedleBoardModel", "isThere", "(I)Z"⟩, 7), (⟨"NeedleBoardModel", "becomes", "(IJ)J"⟩, 7)]
theorem lw_r2 : ∀ q ∈ lw_privs_2, lw_okq q := List.forall_mem_cons.mpr ⟨lw_p16, List.forall_mem_cons.mpr ⟨lw_p17, fun _ h => absurd h List.not_mem_nil⟩⟩
def lw_privs : List (MethodName × Nat) := lw_privs_1 ++ (lw_privs_2)
def lw_tbl : List Cond := k2_sels lw_privs ++ tables_1
theorem lw_privs_ok : ∀ q ∈ lw_privs, lw_okq q := by
  show ∀ q ∈ lw_privs_1 ++ (lw_privs_2), lw_okq q
  exact List.forall_mem_append.mpr ⟨lw_r1, lw_r2⟩
end
section
/-! An exception that lies over a frame is caught by a row of the method's table whose class may still have to be resolved: rows ahead that name other classes are passed. -/
section CT
variable {e : Env}
/-- one row's class is resolved (now, or before), and the object's class decides: caught here, or the search goes on -/
theorem ct_row {f : JFrame} {a : Addr} {x : ExceptionTableEntry} {t : List ExceptionTableEntry} {k : ClassId} {cell : Cell} {S : State} {r : Bool} (hx : covers x f.pc = true) (h0 : x.catchType ≠ 0)
    (hl : S.vm.ClassLinks e.platform f.method.cls x.catchType k) (hcell : S.heap[a]? = some cell) (hobj : ∀ z, cell.vm ≠ .statics z)
    (hk : ∃ z, S.vm.classes[cell.cls]? = some z) (hc : ∃ z, S.vm.classes[k]? = some z) (hr : S.vm.assignable cell.cls k = r) (Q : Handler → Pre) (E : CtlPost) (d : Bool) (acts : List Action) :
    wp (findHandler.go f a (x :: t)) Q E e d acts S ↔
      (if r = true then Q (.found x.handlerPc) d acts (S.setVm (S.vm.noted f.method.cls x.catchType (.cls k)))
        else wp (findHandler.go f a t) Q E e d acts (S.setVm (S.vm.noted f.method.cls x.catchType (.cls k)))) := by
  simp only [covers] at hx
  obtain ⟨ha, ht⟩ := (resolveClass_links e.toSetting hl).op (op := VmOp.resolveClass f.method.cls x.catchType) rfl
  have hal : S.vm.Alike (S.vm.noted f.method.cls x.catchType (.cls k)) := (Vm.Alike.refl S.vm).noted _ _ _
  obtain ⟨z1, hz1⟩ := hk
  obtain ⟨z2, hz2⟩ := hc
  obtain ⟨w1, hw1, -⟩ := hal.2.2 _ _ hz1
  obtain ⟨w2, hw2, -⟩ := hal.2.2 _ _ hz2
  have hq : (S.vm.noted f.method.cls x.catchType (.cls k)).assignable cell.cls k = r := by rw [hal.assignable]; exact hr
  cases r <;> simp [findHandler.go, hx, h0, ha, ht, hcell, hobj, hw1, hw2, hq, VmOp.dirties, VmOp.acts]
/-- the rows 'pre' pass the object, the row x takes it -/
theorem ct_go {s : State} {f : JFrame} {a : Addr} {cell : Cell} (hobj : ∀ z, cell.vm ≠ .statics z) (hk0 : ∃ z, s.vm.classes[cell.cls]? = some z) (x : ExceptionTableEntry) (suf : List ExceptionTableEntry)
    (hx : covers x f.pc = true) (h0 : x.catchType ≠ 0) {k : ClassId} (hlx : s.vm.ClassLinks e.platform f.method.cls x.catchType k) (hfit : s.vm.assignable cell.cls k = true) :
    ∀ (pre : List ExceptionTableEntry) (S : State), s.WarmedH S.vm → S.heap[a]? = some cell →
      (∀ y ∈ pre, covers y f.pc = false ∨ (y.catchType ≠ 0 ∧ ∃ j, s.vm.ClassLinks e.platform f.method.cls y.catchType j ∧ s.vm.assignable cell.cls j = false)) →
      ∃ vm', s.WarmedH vm' ∧ ∀ (Q : Handler → Pre) (E : CtlPost) (d : Bool) (acts : List Action), wp (findHandler.go f a (pre ++ x :: suf)) Q E e d acts S ↔ Q (.found x.handlerPc) d acts (S.setVm vm')
  | [], S, hW, hcell, _ => by
    obtain ⟨z0, hz0⟩ := hk0
    obtain ⟨w0, hw0, -⟩ := hW.alike.2.2 _ _ hz0
    obtain ⟨dk, _, _, kt, hd, _, _, _, _, hkt, _, hopen⟩ := hlx.here
    obtain ⟨wt, hwt, -⟩ := hW.alike.2.2 _ _ hkt
    refine ⟨_, hW.noted hd hopen (State.rightAt_cls hlx), fun Q E d acts => ?_⟩
    have h := ct_row (t := suf) hx h0 (hW.classLinks hlx) hcell hobj ⟨w0, hw0⟩ ⟨wt, hwt⟩ (r := true) (by rw [hW.alike.assignable]; exact hfit) Q E d acts
    rw [if_pos rfl] at h
    exact h
  | y :: ys, S, hW, hcell, hpass => by
    have hrest : ∀ z ∈ ys, covers z f.pc = false ∨ (z.catchType ≠ 0 ∧ ∃ j, s.vm.ClassLinks e.platform f.method.cls z.catchType j ∧ s.vm.assignable cell.cls j = false) := fun z hz => hpass z (List.mem_cons_of_mem _ hz)
    cases hcov : covers y f.pc with
    | false =>
      obtain ⟨vm', hW', hq⟩ := ct_go hobj hk0 x suf hx h0 hlx hfit ys S hW hcell hrest
      exact ⟨vm', hW', fun Q E d acts => by rw [List.cons_append, W.findHandler_go_skip hcov]; exact hq Q E d acts⟩
    | true =>
      rcases hpass y (List.mem_cons_self ..) with h | ⟨hy0, j, hlj, hno⟩
      · rw [h] at hcov; cases hcov
      · obtain ⟨z0, hz0⟩ := id hk0
        obtain ⟨w0, hw0, -⟩ := hW.alike.2.2 _ _ hz0
        obtain ⟨dk, _, _, kt, hd, _, _, _, _, hkt, _, hopen⟩ := hlj.here
        obtain ⟨wt, hwt, -⟩ := hW.alike.2.2 _ _ hkt
        obtain ⟨vm', hW', hq⟩ := ct_go hobj hk0 x suf hx h0 hlx hfit ys (S.setVm (S.vm.noted f.method.cls y.catchType (.cls j))) (hW.noted hd hopen (State.rightAt_cls hlj)) hcell hrest
        refine ⟨vm', hW', fun Q E d acts => ?_⟩
        have h := ct_row (t := ys ++ x :: suf) hcov hy0 (hW.classLinks hlj) hcell hobj ⟨w0, hw0⟩ ⟨wt, hwt⟩ (r := false) (by rw [hW.alike.assignable]; exact hno) Q E d acts
        rw [if_neg (by decide)] at h
        rw [List.cons_append, h]
        exact hq Q E d acts
/-- .. seen from the walked method: the walk goes on at the row's handler -/
theorem ct_caught {p : Program} {l : Launch} {R : Room} {s : State} {m : MethodId} {args : Array Value} {below : List Frame} {meth : Method} {c : Code} {T : State} {locs : List Loc} {cells slots : Nat}
    (X : Stand p l e R s m args below meth c T locs cells slots) (a : Addr) {g : JFrame} (hg : g.method = m) {cell : Cell} (hcell : T.heap[a]? = some cell) (hobj : cell.vm.isStatics = false) (hk0 : ∃ z, s.vm.classes[cell.cls]? = some z)
    (pre : List ExceptionTableEntry) (x : ExceptionTableEntry) (suf : List ExceptionTableEntry) (hsplit : c.exceptionTable.toList = pre ++ x :: suf)
    (hpass : ∀ y ∈ pre, covers y g.pc = false ∨ (y.catchType ≠ 0 ∧ ∃ j, s.vm.ClassLinks e.platform m.cls y.catchType j ∧ s.vm.assignable cell.cls j = false))
    (hx : covers x g.pc = true) (h0 : x.catchType ≠ 0) {k : ClassId} (hlx : s.vm.ClassLinks e.platform m.cls x.catchType k) (hfit : s.vm.assignable cell.cls k = true) :
    ∃ vm', Stand p l e R s m args below meth c (T.setVm vm') locs cells slots ∧
      ∀ tg, Steps p.tables e below ((T.setVm vm').setTop { g with pc := x.handlerPc, stack := [.ref a] }) tg → Steps p.tables e below ((T.setTop g).pushFrame (.throwing a)) tg := by
  subst hg
  obtain ⟨vm', hW', hq⟩ := ct_go (e := e) (s := s) (f := g) (a := a) (VmData.ne_statics_of hobj) hk0 x suf hx h0 hlx hfit pre ((T.setTop g).pushFrame (.throwing a)) X.warmed hcell hpass
  refine ⟨vm', X.noted hW', fun tg hrest => ?_⟩
  have hfind : ∀ (Q : Handler → Pre) (E : CtlPost) (d : Bool) (acts : List Action), wp (findHandler g a) Q E e d acts ((T.setTop g).pushFrame (.throwing a)) ↔ Q (.found x.handlerPc) d acts (((T.setTop g).pushFrame (.throwing a)).setVm vm') := by
    intro Q E d acts
    rw [W.findHandler_eq (s := (T.setTop g).pushFrame (.throwing a)) (meth := meth) (code := c) X.method' X.code, hsplit]
    exact hq Q E d acts
  have h := X.here
  obtain ⟨hgo, hw⟩ := h.throwing a
  refine Steps.head hgo hw ?_
  have hstep : ∀ r, (stepThrowing e ((T.setTop g).pushFrame (.throwing a)) a (.java g :: r)).Is ((((T.setTop g).pushFrame (.throwing a)).setVm vm').setFrames (.java { g with pc := x.handlerPc, stack := [.ref a] } :: r)) [] := by
    intro r
    simp only [stepThrowing, searchFrame, vmDo]
    generalize hr : Sem.go _ e false [] ((T.setTop g).pushFrame (.throwing a)) = res
    obtain ⟨as, rfl, ha⟩ := Sem.eq_ok_of hr (a := Handler.found x.handlerPc) (s' := ((T.setTop g).pushFrame (.throwing a)).setVm vm') (acts' := []) (by simp [hfind _ _ _ _])
    exact ⟨rfl, ha⟩
  rw [stepThread_throwing (frames_entered h.top _), (hstep _).1]
  obtain ⟨g₀, hg⟩ := Option.isSome_iff_exists.mp h.top
  obtain ⟨r, hr⟩ := State.topJava?_eq_some.mp hg
  have hr' : (T.setVm vm').frames = .java g₀ :: r := hr
  rw [State.setTop_of_frames _ hr'] at hrest
  have hsw : ∀ (u : State) (F G : List Frame), ((u.setFrames F).setVm vm').setFrames G = (u.setVm vm').setFrames G := by
    intro u F G
    have h1 : (u.setFrames F).setVm vm' = (u.setVm vm').setFrames F := rfl
    rw [h1, State.setFrames_setFrames]
  rw [hr, List.tail_cons, State.pushFrame, hsw, State.setTop_of_frames _ hr, hsw]
  exact hrest
end CT
end
section
/-! ===== BEGIN words of one list among another's, by their places ===== -/
theorem goodIn_r {big : List Cond} (ws : List Cond) (ps : List Nat) (hp : ws = ps.filterMap (fun i => big[i]?)) (h : ws.all goodWord = true) : GoodIn big ws := by
  intro w hw
  have h1 := List.all_eq_true.mp h w hw
  rw [hp] at hw
  obtain ⟨i, -, hi⟩ := List.mem_filterMap.mp hw
  have hm : w ∈ big := by first | exact List.mem_of_getElem? hi | exact List.getElem?_mem hi
  exact ⟨hm, good_of_word h1⟩
theorem goodIn_app {big a b : List Cond} (ha : GoodIn big a) (hb : GoodIn big b) : GoodIn big (a ++ b) := fun w h => (List.mem_append.mp h).elim (ha w) (hb w)
theorem goodIn_ca {big a b : List Cond} {c : Cond} (ha : GoodIn big (c :: a)) (hb : GoodIn big b) : GoodIn big (c :: (a ++ b)) := fun w h => (List.mem_cons.mp h).elim (fun e => ha w (List.mem_cons.mpr (Or.inl e))) (fun h => (List.mem_append.mp h).elim (fun h => ha w (List.mem_cons.mpr (Or.inr h))) (hb w))
theorem goodIn_sub {big ws : List Cond} (hm : ∀ w ∈ ws, w ∈ big) (h : ws.all goodWord = true) : GoodIn big ws := fun w hw => ⟨hm w hw, good_of_word (List.all_eq_true.mp h w hw)⟩
/-! ===== END ===== -/

/-! ===== BEGIN exceptions that leave a method, and their catching by the caller (launches without stack traces) ===== -/
section VXA
/-! The laws vx_back, vx_callV, vx_callS, vx_callSW, vx_throw0, vx_throwS follow proofs of the library, with one case more: JvmDerived/Free/Laws.lean (Back.of_free), Shelf42/LK1.lean (callV, callS), Shelf/KitTraced.lean (throwNew0V, throwNewS). -/
/-- where a method has thrown q: the class by its name, the cell, what was written, the world -/
def vx_T (XC : String → State → State → Prop) (st : State) (q : Addr) (t : State) (mc ms : Nat) (free : Addr → Prop) : Prop :=
  ∃ (E : String) (ce : Cell) (L : List Loc), XC E st t ∧ t.heap[q]? = some ce ∧ ce.vm = .none ∧ st.vm.findClass E = some ce.cls ∧ st.WarmedH t.vm ∧ st.sameButNew ({ t with vm := st.vm } : State) L mc ms ∧ ∀ z ∈ L, free z.base
def vx_Q (Qc : Array Value → State → Outcome → State → Prop) (XC : String → State → State → Prop) (mc ms : Nat) (free : Addr → Prop) : Array Value → State → Outcome → State → Prop := fun a st o t =>
  (Qc a st o t ∧ ∃ L, FrameEnd st o t L mc ms ∧ ∀ q ∈ L, free q.base) ∨ ∃ q, o = .threw q ∧ vx_T XC st q t mc ms free
/-- a callee that returns or throws -/
def vx_Met (l : Launch) (y : MethodName) (ws : List Cond) (rm : Room) (Pc : Array Value → State → Prop) (Qc : Array Value → State → Outcome → State → Prop) (XC : String → State → State → Prop) (mc ms : Nat) (free : Addr → Prop) : Prop :=
  MetFree l y (headSpec ws rm) Pc (fun _ _ _ _ _ => True) (vx_Q Qc XC mc ms free)
def vx_Post (XC : String → State → State → Prop) (mc ms : Nat) (free : Addr → Prop) : Pt → Array Value → Addr → Pt → Prop := fun A a q B =>
  ∃ (g : JFrame) (mk : MethodId) (t : State) (L : List Loc) (E : String) (ce : Cell), B.U.heap = t.heap ∧ B.U.vm = t.vm ∧ XC E (A.U.calling g mk a) t ∧ t.heap[q]? = some ce ∧ ce.vm = .none ∧ A.U.vm.findClass E = some ce.cls ∧ B.locs = A.locs ++ L ∧ (∀ z ∈ L, free z.base) ∧ B.cells = A.cells + mc ∧ B.slots = A.slots + ms
def vx_Back (l : Launch) (R : Room) (p : Program) (e : Env) (below : List Frame) (s : State) (sargs : Array Value) (y : MethodName) (len W9 : Nat)
    (Pre : Pt → Array Value → Prop) (Post : Pt → Array Value → Option Value → Pt → Prop) (PostX : Pt → Array Value → Addr → Pt → Prop) : Prop :=
  ∀ (m : MethodId) (meth : Method) (c : Code) (A : Pt) (g : JFrame) (ig : Instr) (mk : MethodId) (a : Array Value),
    Stand p l e R s m sargs below meth c A.U A.locs A.cells A.slots → g.method = m → g.locals.size = c.maxLocals → decode c.code g.pc = .ok (ig, len) →
    2 * g.monitorRoom + (g.stack.map fun v => v.category).sum ≤ W9 → A.U.methodNamed? y = some mk → Pre A a →
    (∃ (v : Option Value) (B : Pt), Stand p l e R s m sargs below meth c B.U B.locs B.cells B.slots ∧ Post A a v B ∧
      Steps p.tables e below (doInvoke e (A.U.setTop g) [] mk a).1 (B.U.setTop { g with pc := g.pc + len, stack := v.toList ++ g.stack })) ∨
    (∃ (q : Addr) (B : Pt), Stand p l e R s m sargs below meth c B.U B.locs B.cells B.slots ∧ PostX A a q B ∧
      Steps p.tables e below (doInvoke e (A.U.setTop g) [] mk a).1 ((B.U.setTop g).pushFrame (.throwing q)))
section Payer
variable {l : Launch} {R : Room} {p : Program} {e : Env} {below : List Frame} {s : State} {sargs : Array Value} {y : MethodName} {len W9 : Nat}
theorem vx_back {ws : List Cond} {rm : Room} {Pc : Array Value → State → Prop} {Qc : Array Value → State → Outcome → State → Prop} {XC : String → State → State → Prop} {mc ms : Nat} {free : Addr → Prop} {bytes : ByteArray} {maxL : Nat} {ret : Option FieldType}
    (hM : vx_Met l y ws rm Pc Qc XC mc ms free) (hblind : FrameBlind Pc) (hrc : rm.cells = mc) (hrs : rm.slots = ms)
    (hframes : rm.frames + 1 ≤ R.frames) (hlocals : W9 + (maxL + 11) + rm.locals ≤ R.locals)
    (hws : ∀ w ∈ ws, ∀ a' U, s.WarmedH U.vm → w.before a' U = true) (hcode : Cond.code y bytes maxL ret ∈ ws) (hinit : ∀ a' U, s.WarmedH U.vm → (Cond.initialized y.cls).before a' U = true) :
    vx_Back l R p e below s sargs y len W9 (PreOf R mc ms Pc) (PostOf Qc mc ms free) (vx_Post XC mc ms free) := by
  intro m meth c A g ig mk a X hg hsize hdg hW hn hp
  have h1 : (headSpec ws rm).pre.before a A.U = true := atoms_intro fun w hw => hws w hw _ _ X.warmed
  have h2 : (Cond.code y bytes maxL ret).before a A.U = true := hws _ hcode _ _ X.warmed
  have h3 : (Cond.initialized y.cls).before a A.U = true := hinit _ _ X.warmed
  have h4 : A.cells + (headSpec ws rm).room.cells ≤ R.cells := by rw [show (headSpec ws rm).room.cells = mc from hrc]; exact hp.1
  have h5 : A.slots + (headSpec ws rm).room.slots ≤ R.slots := by rw [show (headSpec ws rm).room.slots = ms from hrs]; exact hp.2.1
  have hPc : Pc a (A.U.calling g mk a) := hblind _ _ _ _ hp.2.2
  obtain ⟨U, Ls, c0, s0⟩ := A
  dsimp only [Pt.U, Pt.locs, Pt.cells, Pt.slots] at h1 h2 h3 h4 h5 X hn hPc ⊢
  obtain ⟨methY, cY, hmY, hcY, -, hlY, -, -, -, -⟩ := Cond.code_spec hn h2
  obtain ⟨kY, hkY, -⟩ := className_of_methodNamed hn
  have hinitY : kY.init = .initialized := Cond.initialized_spec (findClass_of_methodNamed hn) hkY h3
  have h : At U g.method c below := by rw [hg]; exact X.here
  have hlocals9 : W9 + (maxL + 11) + (headSpec ws rm).room.locals ≤ R.locals := hlocals
  have happ : (headSpec ws rm).appliesLoose y e.platform (U.calling g mk a) = true :=
    Spec.appliesLoose_calling (g := g) h hdg hn hkY hinitY
      (X.room_calling (g := g) (R' := (headSpec ws rm).room) hsize hmY hcY hframes (by rw [hlY]; omega) h4 h5) h1
  obtain ⟨mid, hmid⟩ := h.above
  have hfr : (U.setTop g).frames = (.java g :: mid) ++ below := by rw [State.frames_setTop' g h.top, hmid]; rfl
  obtain ⟨o, s₂, hsteps, -, hend, hq⟩ := Steps.callFree hM p X.admits X.cas X.clock (acts := []) hfr happ hPc trivial
  have hq' : vx_Q Qc XC mc ms free a (U.calling g mk a) o s₂ := hq
  rw [State.frames_setTop' g h.top] at hend
  obtain ⟨g₀, hg0⟩ := Option.isSome_iff_exists.mp h.top
  obtain ⟨r, hr⟩ := State.topJava?_eq_some.mp hg0
  have hr' : (({ U with heap := s₂.heap, slotsUsed := s₂.slotsUsed } : State).setVm s₂.vm).frames = .java g₀ :: r := hr
  rcases hq' with ⟨hqc, L, hfe, hL⟩ | ⟨q, rfl, E, ce, L, hx, hce, hcv, hcl, hW₂, hsm, hL⟩
  · obtain ⟨⟨v, rfl⟩, hW₂, e2, q2, q3, q4, q5, q6⟩ := id hfe
    have e3 : s₂ = ({ (U.calling g mk a).setFrames s₂.frames with heap := s₂.heap, slotsUsed := s₂.slotsUsed } : State).setVm s₂.vm := by
      have : s₂ = ({ s₂ with vm := (U.calling g mk a).vm } : State).setVm s₂.vm := rfl
      rw [e2] at this
      exact this
    obtain ⟨c₂, i₂, len₂, hc₂, hd₂, hf₂⟩ := hend
    have hW' : U.WarmedH s₂.vm := hW₂
    have hcc : c₂ = c := by
      have h1 : s₂.code? g.method = U.code? g.method := by
        rw [State.code?_eq, State.code?_eq, hW'.alike.method?]
      exact Option.some.inj (hc₂.symm.trans (h1.trans h.code))
    subst hcc
    have hlen : len₂ = len := by rw [hdg] at hd₂; cases hd₂; rfl
    subst hlen
    have hs₂ : s₂ = (({ U with heap := s₂.heap, slotsUsed := s₂.slotsUsed } : State).setVm s₂.vm).setTop { g with pc := g.pc + len₂, stack := v.toList ++ g.stack } := by
      refine e3.trans ?_
      rw [hf₂, State.calling_eq h.top, State.setFrames_setFrames, State.setTop_of_frames _ hr', hr]
      rfl
    have hsame : U.sameButNew ({ U with heap := s₂.heap, slotsUsed := s₂.slotsUsed } : State) L mc ms := by
      refine ⟨?_, q2, q3, q4, q5, q6⟩
      obtain ⟨t, ht, -⟩ := State.frames_cons hr
      show ({ U with heap := s₂.heap, slotsUsed := s₂.slotsUsed } : State) = { U.setFrames U.frames with heap := s₂.heap, slotsUsed := s₂.slotsUsed }
      rw [State.setFrames_self ht]
    subst hg
    refine Or.inl ⟨v, ⟨(({ U with heap := s₂.heap, slotsUsed := s₂.slotsUsed } : State).setVm s₂.vm), Ls ++ L, c0 + mc, s0 + ms⟩,
      ⟨X.admits, X.cas, X.clock, X.frames, X.room, X.hears, X.method, X.code, (X.here.setHeapUsed s₂.heap s₂.slotsUsed).setVm hW'.alike, X.tail, State.WarmedH.trans X.warmed hW', X.limits, X.bytes, X.same.trans (hsame.setVm s.vm)⟩,
      ⟨g, mk, s₂, L, rfl, rfl, hqc, rfl, hL, rfl, rfl⟩, ?_⟩
    show Steps p.tables e below _ ((({ U with heap := s₂.heap, slotsUsed := s₂.slotsUsed } : State).setVm s₂.vm).setTop { g with pc := g.pc + len₂, stack := v.toList ++ g.stack })
    rw [← hs₂]
    exact hsteps
  · obtain ⟨e2, q2, q3, q4, q5, q6⟩ := id hsm
    have e3 : s₂ = ({ (U.calling g mk a).setFrames s₂.frames with heap := s₂.heap, slotsUsed := s₂.slotsUsed } : State).setVm s₂.vm := by
      have : s₂ = ({ s₂ with vm := (U.calling g mk a).vm } : State).setVm s₂.vm := rfl
      rw [e2] at this
      exact this
    have hf₂ : s₂.frames = .throwing q :: .java g :: U.frames.tail := hend
    have hW' : U.WarmedH s₂.vm := hW₂
    have hs₂ : s₂ = ((({ U with heap := s₂.heap, slotsUsed := s₂.slotsUsed } : State).setVm s₂.vm).setTop g).pushFrame (.throwing q) := by
      refine e3.trans ?_
      rw [hf₂, State.calling_eq h.top, State.setFrames_setFrames, State.pushFrame, State.frames_setTop _ hr', State.setTop_of_frames _ hr', State.setFrames_setFrames, hr]
      rfl
    have hsame : U.sameButNew ({ U with heap := s₂.heap, slotsUsed := s₂.slotsUsed } : State) L mc ms := by
      refine ⟨?_, q2, q3, q4, q5, q6⟩
      obtain ⟨t, ht, -⟩ := State.frames_cons hr
      show ({ U with heap := s₂.heap, slotsUsed := s₂.slotsUsed } : State) = { U.setFrames U.frames with heap := s₂.heap, slotsUsed := s₂.slotsUsed }
      rw [State.setFrames_self ht]
    subst hg
    refine Or.inr ⟨q, ⟨(({ U with heap := s₂.heap, slotsUsed := s₂.slotsUsed } : State).setVm s₂.vm), Ls ++ L, c0 + mc, s0 + ms⟩,
      ⟨X.admits, X.cas, X.clock, X.frames, X.room, X.hears, X.method, X.code, (X.here.setHeapUsed s₂.heap s₂.slotsUsed).setVm hW'.alike, X.tail, State.WarmedH.trans X.warmed hW', X.limits, X.bytes, X.same.trans (hsame.setVm s.vm)⟩,
      ⟨g, mk, s₂, L, E, ce, rfl, rfl, hx, hce, hcv, hcl, rfl, hL, rfl, rfl⟩, ?_⟩
    show Steps p.tables e below _ (((({ U with heap := s₂.heap, slotsUsed := s₂.slotsUsed } : State).setVm s₂.vm).setTop g).pushFrame (.throwing q))
    rw [← hs₂]
    exact hsteps
end Payer
section Calls
variable {p : Program} {l : Launch} {e : Env} {R : Room} {s : State} {m : MethodId} {args : Array Value} {below : List Frame} {meth : Method} {c : Code} {T : State} {locs : List Loc} {cells slots : Nat}
theorem vx_callV (X : Stand p l e R s m args below meth c T locs cells slots) (hexec : p.tables.exec = Jvm.exec) {own C : String} {index : Nat} {y : MethodName} {bytes : ByteArray} {maxL : Nat} {ret : Option FieldType}
    (hown : s.vm.findClass own = some m.cls) (hlink : (Cond.methodLink own index y).before args s = true) (hinst : (Cond.instanceMethod y).before args s = true) (hsel : (Cond.selects C y y).before args s = true)
    (hcode : (Cond.code y bytes maxL ret).before args s = true) (hy : y.cls ≠ "java/lang/invoke/MethodHandle" ∧ y.cls ≠ "java/lang/invoke/VarHandle")
    {W9 : Nat} {Pre : Pt → Array Value → Prop} {Post : Pt → Array Value → Option Value → Pt → Prop} {PostX : Pt → Array Value → Addr → Pt → Prop} (hK : vx_Back l R p e below s args y 3 W9 Pre Post PostX)
    {b : Addr} {cellB : Cell} (hcell : T.heap[b]? = some cellB) (hobj : cellB.vm.isStatics = false) (hcls : s.vm.findClass C = some cellB.cls)
    {g : JFrame} (hg : g.method = m) (hsize : g.locals.size = c.maxLocals) {argsL rest : List Value} (hlen : ∀ sig, parseMethodDescriptor y.desc = some sig → argsL.length = sig.parameters.length)
    (hstack : g.stack = argsL.reverse ++ .ref b :: rest) (hW : 2 * g.monitorRoom + (rest.map fun v => v.category).sum ≤ W9) (hdg : decode c.code g.pc = .ok (.invokevirtual index, 3))
    (hpre : ∀ vm₁, s.WarmedH vm₁ → Pre ⟨T.setVm vm₁, locs, cells, slots⟩ (Value.ref b :: argsL).toArray) :
    (∃ (v : Option Value) (vm₁ : Vm) (B : Pt), s.WarmedH vm₁ ∧ Stand p l e R s m args below meth c B.U B.locs B.cells B.slots ∧ Post ⟨T.setVm vm₁, locs, cells, slots⟩ (Value.ref b :: argsL).toArray v B ∧
      ∀ target, Steps p.tables e below (B.U.setTop { g with pc := g.pc + 3, stack := v.toList ++ rest }) target → Steps p.tables e below (T.setTop g) target) ∨
    (∃ (q : Addr) (vm₁ : Vm) (B : Pt), s.WarmedH vm₁ ∧ Stand p l e R s m args below meth c B.U B.locs B.cells B.slots ∧ PostX ⟨T.setVm vm₁, locs, cells, slots⟩ (Value.ref b :: argsL).toArray q B ∧
      Steps p.tables e below (T.setTop g) ((B.U.setTop { g with stack := rest }).pushFrame (.throwing q))) := by
  obtain ⟨mk, methM, hnamed, hmethM, hstM, habM⟩ := Cond.instanceMethod_spec hinst
  obtain ⟨methM', cM, hmethM', -, -, -, -, -, -, hsigM⟩ := Cond.code_spec hnamed hcode
  cases hmethM.symm.trans hmethM'
  obtain ⟨c2, r2, m2, q1, q2, q3, q4, kP, hkP, hkPi⟩ := Cond.selects_spec hsel
  cases hcls.symm.trans q1
  cases (State.methodFound?_of_named hnamed hy).symm.trans q2
  cases hnamed.symm.trans q3
  have hselP : selectMethod e.platform s.vm cellB.cls mk = .method mk := by rw [Launch.admits_selectMethod X.admits]; exact q4
  obtain ⟨vm₁, X₁, hstep₁⟩ := X.invokevirtual hexec hown hlink hnamed hmethM hstM hkP hkPi hy (a := b) (cell := cellB) hcell
    (fun z h => by rw [h] at hobj; cases hobj) hselP hmethM habM hkP hkPi (g := g) hg (argsL := argsL) (rest := rest) (hlen _ hsigM) hstack hdg
  rcases hK m meth c ⟨T.setVm vm₁, locs, cells, slots⟩ { g with stack := rest } (.invokevirtual index) mk (Value.ref b :: argsL).toArray X₁ hg hsize hdg hW (X₁.named hnamed) (hpre vm₁ X₁.warmed) with ⟨v, B, X', hpost, hsteps⟩ | ⟨q, B, X', hpost, hsteps⟩
  · exact Or.inl ⟨v, vm₁, B, X₁.warmed, X', hpost, fun target h => hstep₁ _ fun acts => by rw [doInvoke_state]; exact hsteps.trans h⟩
  · exact Or.inr ⟨q, vm₁, B, X₁.warmed, X', hpost, hstep₁ _ fun acts => by rw [doInvoke_state]; exact hsteps⟩
theorem vx_callS (X : Stand p l e R s m args below meth c T locs cells slots) (hexec : p.tables.exec = Jvm.exec) {own : String} {index : Nat} {y : MethodName} {bytes : ByteArray} {maxL : Nat} {ret : Option FieldType}
    (hown : s.vm.findClass own = some m.cls) (hlink : (Cond.methodLink own index y).before args s = true) (hstat : (Cond.static y).before args s = true) (hinit : (Cond.initialized y.cls).before args s = true)
    (hcode : (Cond.code y bytes maxL ret).before args s = true) (hy : y.cls ≠ "java/lang/invoke/MethodHandle" ∧ y.cls ≠ "java/lang/invoke/VarHandle")
    {W9 : Nat} {Pre : Pt → Array Value → Prop} {Post : Pt → Array Value → Option Value → Pt → Prop} {PostX : Pt → Array Value → Addr → Pt → Prop} (hK : vx_Back l R p e below s args y 3 W9 Pre Post PostX)
    {g : JFrame} (hg : g.method = m) (hsize : g.locals.size = c.maxLocals) {argsL rest : List Value} (hlen : ∀ sig, parseMethodDescriptor y.desc = some sig → argsL.length = sig.parameters.length)
    (hstack : g.stack = argsL.reverse ++ rest) (hW : 2 * g.monitorRoom + (rest.map fun v => v.category).sum ≤ W9) (hdg : decode c.code g.pc = .ok (.invokestatic index, 3))
    (hpre : ∀ vm₁, s.WarmedH vm₁ → Pre ⟨T.setVm vm₁, locs, cells, slots⟩ argsL.toArray) :
    (∃ (v : Option Value) (vm₁ : Vm) (B : Pt), s.WarmedH vm₁ ∧ Stand p l e R s m args below meth c B.U B.locs B.cells B.slots ∧ Post ⟨T.setVm vm₁, locs, cells, slots⟩ argsL.toArray v B ∧
      ∀ target, Steps p.tables e below (B.U.setTop { g with pc := g.pc + 3, stack := v.toList ++ rest }) target → Steps p.tables e below (T.setTop g) target) ∨
    (∃ (q : Addr) (vm₁ : Vm) (B : Pt), s.WarmedH vm₁ ∧ Stand p l e R s m args below meth c B.U B.locs B.cells B.slots ∧ PostX ⟨T.setVm vm₁, locs, cells, slots⟩ argsL.toArray q B ∧
      Steps p.tables e below (T.setTop g) ((B.U.setTop { g with stack := rest }).pushFrame (.throwing q))) := by
  obtain ⟨mk, hnamed⟩ := Cond.code_named hcode
  obtain ⟨methM, cM, hmethM, -, -, -, -, -, -, hsigM⟩ := Cond.code_spec hnamed hcode
  have hstatic : methM.isStatic = true := Cond.static_spec hnamed hmethM hstat
  obtain ⟨kP, hkP, -⟩ := className_of_methodNamed hnamed
  have hinitP : kP.init = .initialized := Cond.initialized_spec (findClass_of_methodNamed hnamed) hkP hinit
  obtain ⟨vm₁, X₁, hstep₁⟩ := X.invokestatic hexec hown hlink hnamed hmethM hstatic hkP hinitP hy (g := g) hg (argsL := argsL) (rest := rest) (hlen _ hsigM) hstack hdg
  rcases hK m meth c ⟨T.setVm vm₁, locs, cells, slots⟩ { g with stack := rest } (.invokestatic index) mk argsL.toArray X₁ hg hsize hdg hW (X₁.named hnamed) (hpre vm₁ X₁.warmed) with ⟨v, B, X', hpost, hsteps⟩ | ⟨q, B, X', hpost, hsteps⟩
  · exact Or.inl ⟨v, vm₁, B, X₁.warmed, X', hpost, fun target h => hstep₁ _ fun acts => by rw [doInvoke_state]; exact hsteps.trans h⟩
  · exact Or.inr ⟨q, vm₁, B, X₁.warmed, X', hpost, hstep₁ _ fun acts => by rw [doInvoke_state]; exact hsteps⟩
end Calls
theorem vx_cls {s : State} {T : State} {vm₁ : Vm} {E : String} {k : ClassId} (hW : s.WarmedH vm₁) (h : (T.setVm vm₁).vm.findClass E = some k) : s.vm.findClass E = some k := by
  have h1 : vm₁.findClass E = some k := h
  rw [hW.alike.findClass] at h1
  exact h1
/-- the method's frame g, with q thrown over it -/
def vx_W (p : Program) (l : Launch) (e : Env) (R : Room) (s : State) (m : MethodId) (args : Array Value) (below : List Frame) (meth : Method) (c : Code) (H : Heap) (locs : List Loc) (cells slots : Nat) (Q : State → Prop) (g : JFrame) (q : Addr) : Prop :=
  ∀ T : State, T.heap = H → Stand p l e R s m args below meth c T locs cells slots → ∃ t, Steps p.tables e below ((T.setTop g).pushFrame (.throwing q)) t ∧ Q t
def vx_Run (p : Program) (l : Launch) (e : Env) (R : Room) (s : State) (m : MethodId) (args : Array Value) (below : List Frame) (meth : Method) (c : Code) (H : Heap) (locs : List Loc) (cells slots mc ms : Nat) (g : JFrame) (rest : List Value) (Qa : State → Outcome → State → Prop) (XC : String → State → State → Prop) (free : Addr → Prop) : Prop :=
  ∀ T : State, T.heap = H → Stand p l e R s m args below meth c T locs cells slots →
    (∃ (v : Option Value) (st₀ t T' : State) (L : List Loc), st₀.heap = H ∧ Stand p l e R s m args below meth c T' (locs ++ L) (cells + mc) (slots + ms) ∧ (∀ q ∈ L, free q.base) ∧ T'.heap = t.heap ∧ T'.vm = t.vm ∧ Qa st₀ (.returned v) t ∧
      Goes p e below T g T' { g with pc := g.pc + 3, stack := v.toList ++ rest }) ∨
    (∃ (q : Addr) (st₀ t T' : State) (L : List Loc) (E : String) (ce : Cell), st₀.heap = H ∧ Stand p l e R s m args below meth c T' (locs ++ L) (cells + mc) (slots + ms) ∧ (∀ z ∈ L, free z.base) ∧ T'.heap = t.heap ∧ T'.vm = t.vm ∧ XC E st₀ t ∧ t.heap[q]? = some ce ∧ ce.vm = .none ∧ s.vm.findClass E = some ce.cls ∧
      Steps p.tables e below (T.setTop g) ((T'.setTop { g with stack := rest }).pushFrame (.throwing q)))
def vx_X {S : Type} (px : S → Prop) (B : String → S → State → Prop) (A : Nat → Prop) : String → State → State → Prop := fun E st t => ∃ u : S, px u ∧ B E u t ∧ va_F A st t
section Runs
variable {p : Program} {l : Launch} {e : Env} {R : Room} {s : State} {m : MethodId} {args : Array Value} {below : List Frame} {meth : Method} {c : Code} {H : Heap} {locs : List Loc} {cells slots : Nat}
variable {y : MethodName} {bytes cc : ByteArray} {maxL nL mc ms n index : Nat} {ret : Option FieldType} {ws : List Cond} {rm : Room} {Pc : Array Value → State → Prop} {Qc : Array Value → State → Outcome → State → Prop} {XC : String → State → State → Prop} {free : Addr → Prop} {Ts : List Cond} {own C : String} {b : Addr} {As rest : List Value} {g : JFrame}
theorem vx_callBack (cb : CallB R s args own index y bytes maxL ret ws rm mc ms n) (hM : vx_Met l y ws rm Pc Qc XC mc ms free) (hbl : FrameBlind Pc) : vx_Back l R p e below s args y 3 8 (PreOf R mc ms Pc) (PostOf Qc mc ms free) (vx_Post XC mc ms free) := by
  obtain ⟨hrc, hrs, hfr, hlo, hws, hcw, -, hini, -⟩ := cb
  exact vx_back (bytes := bytes) (maxL := maxL) (ret := ret) hM hbl hrc hrs hfr hlo hws hcw (fun a' U hW => word_at hW (Or.inl (by first | rfl | simp [Cond.onTables, Cond.keeps, Cond.steady])) hini)
theorem vx_runV (S : CallFix p m c cc nL s args Ts own) (hM : vx_Met l y ws rm Pc Qc XC mc ms free) (cw : CallW R s args own C index y bytes maxL ret ws rm mc ms n) (hp : PreV s H C b Pc As)
    (hg : g.method = m) (hn : As.length = n) (hsize : g.locals.size = nL) (hstack : g.stack = As.reverse ++ .ref b :: rest) (hW : 2 * g.monitorRoom + (rest.map fun v => v.category).sum ≤ 8) (hdg : decode cc g.pc = .ok (.invokevirtual index, 3)) (hf : cells + mc ≤ R.cells ∧ slots + ms ≤ R.slots) :
    vx_Run p l e R s m args below meth c H locs cells slots mc ms g rest (Qc (Value.ref b :: As).toArray) XC free := by
  have hK : vx_Back l R p e below s args y 3 8 (PreOf R mc ms Pc) (PostOf Qc mc ms free) (vx_Post XC mc ms free) := vx_callBack cw.1 hM hp.1
  obtain ⟨⟨-, -, -, -, -, -, hcode, -, hy, hlen, hl⟩, hin, hse⟩ := cw
  obtain ⟨hx, hb, hml, ho, -⟩ := S
  obtain ⟨-, ⟨cellB, hcB, hoB, hclB⟩, hPc⟩ := hp
  intro T hT X
  rcases vx_callV X hx (C := C) (bytes := bytes) (maxL := maxL) (ret := ret) ho hl hin hse hcode hy hK (by rw [hT]; exact hcB) hoB hclB hg (hsize.trans hml.symm) (argsL := As) (rest := rest) (fun sig h => hn.trans (hlen sig h)) hstack hW (by rw [hb]; exact hdg)
    (fun vm₁ hW₁ => ⟨hf.1, hf.2, hPc (T.setVm vm₁) hT hW₁⟩) with ⟨v, vm₁, ⟨U', l2, c2, s2⟩, hW₁, X', ⟨g', mk, t, L, e1, e2, hq, h1, hL, h2, h3⟩, st⟩ | ⟨q, vm₁, ⟨U', l2, c2, s2⟩, hW₁, X', ⟨g', mk, t, L, E, ce, e1, e2, hq, hce, hcv, hcl, h1, hL, h2, h3⟩, st⟩
  · dsimp only [Pt.U, Pt.locs, Pt.cells, Pt.slots] at X' e1 e2 h1 h2 h3 st
    subst h1; subst h2; subst h3
    exact Or.inl ⟨v, (T.setVm vm₁).calling g' mk (Value.ref b :: As).toArray, t, U', L, hT, X', hL, e1, e2, hq, st⟩
  · dsimp only [Pt.U, Pt.locs, Pt.cells, Pt.slots] at X' e1 e2 h1 h2 h3 st hcl
    subst h1; subst h2; subst h3
    exact Or.inr ⟨q, (T.setVm vm₁).calling g' mk (Value.ref b :: As).toArray, t, U', L, E, ce, hT, X', hL, e1, e2, hq, hce, hcv, vx_cls hW₁ hcl, st⟩
theorem vx_runS (S : CallFix p m c cc nL s args Ts own) (hM : vx_Met l y ws rm Pc Qc XC mc ms free) (cw : CallB R s args own index y bytes maxL ret ws rm mc ms n ∧ (Cond.static y).before args s = true) (hp : PreS s H Pc As)
    (hg : g.method = m) (hn : As.length = n) (hsize : g.locals.size = nL) (hstack : g.stack = As.reverse ++ rest) (hW : 2 * g.monitorRoom + (rest.map fun v => v.category).sum ≤ 8) (hdg : decode cc g.pc = .ok (.invokestatic index, 3)) (hf : cells + mc ≤ R.cells ∧ slots + ms ≤ R.slots) :
    vx_Run p l e R s m args below meth c H locs cells slots mc ms g rest (Qc As.toArray) XC free := by
  have hK : vx_Back l R p e below s args y 3 8 (PreOf R mc ms Pc) (PostOf Qc mc ms free) (vx_Post XC mc ms free) := vx_callBack cw.1 hM hp.1
  obtain ⟨⟨-, -, -, -, -, -, hcode, hini, hy, hlen, hl⟩, hstt⟩ := cw
  obtain ⟨hx, hb, hml, ho, -⟩ := S
  intro T hT X
  rcases vx_callS X hx (bytes := bytes) (maxL := maxL) (ret := ret) ho hl hstt hini hcode hy hK hg (hsize.trans hml.symm) (argsL := As) (rest := rest) (fun sig h => hn.trans (hlen sig h)) hstack hW (by rw [hb]; exact hdg)
    (fun vm₁ hW₁ => ⟨hf.1, hf.2, hp.2 (T.setVm vm₁) hT hW₁⟩) with ⟨v, vm₁, ⟨U', l2, c2, s2⟩, hW₁, X', ⟨g', mk, t, L, e1, e2, hq, h1, hL, h2, h3⟩, st⟩ | ⟨q, vm₁, ⟨U', l2, c2, s2⟩, hW₁, X', ⟨g', mk, t, L, E, ce, e1, e2, hq, hce, hcv, hcl, h1, hL, h2, h3⟩, st⟩
  · dsimp only [Pt.U, Pt.locs, Pt.cells, Pt.slots] at X' e1 e2 h1 h2 h3 st
    subst h1; subst h2; subst h3
    exact Or.inl ⟨v, (T.setVm vm₁).calling g' mk As.toArray, t, U', L, hT, X', hL, e1, e2, hq, st⟩
  · dsimp only [Pt.U, Pt.locs, Pt.cells, Pt.slots] at X' e1 e2 h1 h2 h3 st hcl
    subst h1; subst h2; subst h3
    exact Or.inr ⟨q, (T.setVm vm₁).calling g' mk As.toArray, t, U', L, E, ce, hT, X', hL, e1, e2, hq, hce, hcv, vx_cls hW₁ hcl, st⟩
end Runs
section Rows
variable {p : Program} {l : Launch} {e : Env} {R : Room} {s : State} {m : MethodId} {args : Array Value} {below : List Frame} {meth : Method} {c : Code} {H : Heap} {locs : List Loc} {cells slots : Nat} {Q : State → Prop}
variable {mc ms : Nat} {free : Addr → Prop} {A0 A1 : Nat → Prop} {H0 : Heap} {a : Array Value} {pc : Nat} {ls : Array Slot} {st0 rest : List Value}
theorem vx_keep {st₀ t T' : State} {L : List Loc} (h0 : st₀.heap = H) (e1 : T'.heap = t.heap) (hS : va_S A0 H0 H locs) (hA : ∀ q, q < H.size → A1 q → A0 q) (hf : ∀ q, free q → A0 q) (hL : ∀ q ∈ L, free q.base) (hF : va_F A1 st₀ t) :
    H.size ≤ T'.heap.size ∧ (∀ q : Nat, q < H.size → ¬ A1 q → T'.heap[q]? = H[q]?) ∧ va_S A0 H0 T'.heap (locs ++ L) := by
  obtain ⟨hz, hk⟩ := hF
  rw [h0] at hz hk
  exact ⟨by rw [e1]; exact hz, fun q h1 h2 => by rw [e1]; exact hk q h1 h2,
    ⟨Nat.le_trans hS.1 (by rw [e1]; exact hz), fun q h1 h2 => by rw [e1, hk q (Nat.lt_of_lt_of_le h1 hS.1) (fun z => h2 (hA q (Nat.lt_of_lt_of_le h1 hS.1) z))]; exact hS.2.1 q h1 h2, fun q hq => by
      rcases List.mem_append.mp hq with h | h
      · exact hS.2.2 q h
      · exact hf _ (hL q h)⟩⟩
theorem vx_calli {S SX : Type} {post : Int32 → S → Prop} {px : SX → Prop} {B : S → State → Prop} {BX : String → SX → State → Prop} {AX : Nat → Prop} (hr : vx_Run p l e R s m args below meth c H locs cells slots mc ms (F0 m pc ls st0) rest (va_Qi post B A1 a) (vx_X px BX AX) free) (hS : va_S A0 H0 H locs) (hA : ∀ q, q < H.size → A1 q → A0 q) (hf : ∀ q, free q → A0 q) (hAX : ∀ q, q < H.size → AX q → A0 q)
    (kx : ∀ (E : String) (ce : Cell) (q9 : Addr) (u : SX) (t : State) (H1 : Heap) (locs1 : List Loc), t.heap = H1 → s.vm.Alike t.vm → px u → BX E u t → H.size ≤ H1.size → (∀ q : Nat, q < H.size → ¬ AX q → H1[q]? = H[q]?) → va_S A0 H0 H1 locs1 → H1[q9]? = some ce → ce.vm = .none → s.vm.findClass E = some ce.cls → vx_W p l e R s m args below meth c H1 locs1 (cells + mc) (slots + ms) Q (F0 m pc ls rest) q9)
    (kk : ∀ (r : Int32) (u : S) (t : State) (H1 : Heap) (locs1 : List Loc), t.heap = H1 → s.vm.Alike t.vm → post r u → B u t → H.size ≤ H1.size → (∀ q : Nat, q < H.size → ¬ A1 q → H1[q]? = H[q]?) → va_S A0 H0 H1 locs1 → W p l e R s m args below meth c H1 locs1 (cells + mc) (slots + ms) Q (F0 m (pc + 3) ls (.int r :: rest))) : W p l e R s m args below meth c H locs cells slots Q (F0 m pc ls st0) := by
  intro T hT X
  rcases hr T hT X with ⟨v, st₀, t, T', L, h0, X', hL, e1, e2, ⟨⟨r, u, hv, hp, hb⟩, hF⟩, st⟩ | ⟨q, st₀, t, T', L, E, ce, h0, X', hL, e1, e2, ⟨u, hp, hb, hF⟩, hce, hcv, hcl, st⟩
  · cases hv
    obtain ⟨k1, k2, k3⟩ := vx_keep h0 e1 hS hA hf hL hF
    obtain ⟨t2, a1, b1⟩ := kk r u t T'.heap (locs ++ L) e1.symm (by rw [← e2]; exact X'.warmed.alike) hp hb k1 k2 k3 T' rfl X'
    exact ⟨t2, st t2 a1, b1⟩
  · obtain ⟨k1, k2, k3⟩ := vx_keep h0 e1 hS hAX hf hL hF
    obtain ⟨t2, a1, b1⟩ := kx E ce q u t T'.heap (locs ++ L) e1.symm (by rw [← e2]; exact X'.warmed.alike) hp hb k1 k2 k3 (by rw [e1]; exact hce) hcv hcl T' rfl X'
    exact ⟨t2, st.trans a1, b1⟩
theorem vx_calll {S SX : Type} {post : Int64 → S → Prop} {px : SX → Prop} {B : S → State → Prop} {BX : String → SX → State → Prop} {AX : Nat → Prop} (hr : vx_Run p l e R s m args below meth c H locs cells slots mc ms (F0 m pc ls st0) rest (va_Ql post B A1 a) (vx_X px BX AX) free) (hS : va_S A0 H0 H locs) (hA : ∀ q, q < H.size → A1 q → A0 q) (hf : ∀ q, free q → A0 q) (hAX : ∀ q, q < H.size → AX q → A0 q)
    (kx : ∀ (E : String) (ce : Cell) (q9 : Addr) (u : SX) (t : State) (H1 : Heap) (locs1 : List Loc), t.heap = H1 → s.vm.Alike t.vm → px u → BX E u t → H.size ≤ H1.size → (∀ q : Nat, q < H.size → ¬ AX q → H1[q]? = H[q]?) → va_S A0 H0 H1 locs1 → H1[q9]? = some ce → ce.vm = .none → s.vm.findClass E = some ce.cls → vx_W p l e R s m args below meth c H1 locs1 (cells + mc) (slots + ms) Q (F0 m pc ls rest) q9)
    (kk : ∀ (r : Int64) (u : S) (t : State) (H1 : Heap) (locs1 : List Loc), t.heap = H1 → s.vm.Alike t.vm → post r u → B u t → H.size ≤ H1.size → (∀ q : Nat, q < H.size → ¬ A1 q → H1[q]? = H[q]?) → va_S A0 H0 H1 locs1 → W p l e R s m args below meth c H1 locs1 (cells + mc) (slots + ms) Q (F0 m (pc + 3) ls (.long r :: rest))) : W p l e R s m args below meth c H locs cells slots Q (F0 m pc ls st0) := by
  intro T hT X
  rcases hr T hT X with ⟨v, st₀, t, T', L, h0, X', hL, e1, e2, ⟨⟨r, u, hv, hp, hb⟩, hF⟩, st⟩ | ⟨q, st₀, t, T', L, E, ce, h0, X', hL, e1, e2, ⟨u, hp, hb, hF⟩, hce, hcv, hcl, st⟩
  · cases hv
    obtain ⟨k1, k2, k3⟩ := vx_keep h0 e1 hS hA hf hL hF
    obtain ⟨t2, a1, b1⟩ := kk r u t T'.heap (locs ++ L) e1.symm (by rw [← e2]; exact X'.warmed.alike) hp hb k1 k2 k3 T' rfl X'
    exact ⟨t2, st t2 a1, b1⟩
  · obtain ⟨k1, k2, k3⟩ := vx_keep h0 e1 hS hAX hf hL hF
    obtain ⟨t2, a1, b1⟩ := kx E ce q u t T'.heap (locs ++ L) e1.symm (by rw [← e2]; exact X'.warmed.alike) hp hb k1 k2 k3 (by rw [e1]; exact hce) hcv hcl T' rfl X'
    exact ⟨t2, st.trans a1, b1⟩
theorem vx_callf {S SX : Type} {post : UInt32 → S → Prop} {px : SX → Prop} {B : S → State → Prop} {BX : String → SX → State → Prop} {AX : Nat → Prop} (hr : vx_Run p l e R s m args below meth c H locs cells slots mc ms (F0 m pc ls st0) rest (va_Qf post B A1 a) (vx_X px BX AX) free) (hS : va_S A0 H0 H locs) (hA : ∀ q, q < H.size → A1 q → A0 q) (hf : ∀ q, free q → A0 q) (hAX : ∀ q, q < H.size → AX q → A0 q)
    (kx : ∀ (E : String) (ce : Cell) (q9 : Addr) (u : SX) (t : State) (H1 : Heap) (locs1 : List Loc), t.heap = H1 → s.vm.Alike t.vm → px u → BX E u t → H.size ≤ H1.size → (∀ q : Nat, q < H.size → ¬ AX q → H1[q]? = H[q]?) → va_S A0 H0 H1 locs1 → H1[q9]? = some ce → ce.vm = .none → s.vm.findClass E = some ce.cls → vx_W p l e R s m args below meth c H1 locs1 (cells + mc) (slots + ms) Q (F0 m pc ls rest) q9)
    (kk : ∀ (r : UInt32) (u : S) (t : State) (H1 : Heap) (locs1 : List Loc), t.heap = H1 → s.vm.Alike t.vm → post r u → B u t → H.size ≤ H1.size → (∀ q : Nat, q < H.size → ¬ A1 q → H1[q]? = H[q]?) → va_S A0 H0 H1 locs1 → W p l e R s m args below meth c H1 locs1 (cells + mc) (slots + ms) Q (F0 m (pc + 3) ls (.float r :: rest))) : W p l e R s m args below meth c H locs cells slots Q (F0 m pc ls st0) := by
  intro T hT X
  rcases hr T hT X with ⟨v, st₀, t, T', L, h0, X', hL, e1, e2, ⟨⟨r, u, hv, hp, hb⟩, hF⟩, st⟩ | ⟨q, st₀, t, T', L, E, ce, h0, X', hL, e1, e2, ⟨u, hp, hb, hF⟩, hce, hcv, hcl, st⟩
  · cases hv
    obtain ⟨k1, k2, k3⟩ := vx_keep h0 e1 hS hA hf hL hF
    obtain ⟨t2, a1, b1⟩ := kk r u t T'.heap (locs ++ L) e1.symm (by rw [← e2]; exact X'.warmed.alike) hp hb k1 k2 k3 T' rfl X'
    exact ⟨t2, st t2 a1, b1⟩
  · obtain ⟨k1, k2, k3⟩ := vx_keep h0 e1 hS hAX hf hL hF
    obtain ⟨t2, a1, b1⟩ := kx E ce q u t T'.heap (locs ++ L) e1.symm (by rw [← e2]; exact X'.warmed.alike) hp hb k1 k2 k3 (by rw [e1]; exact hce) hcv hcl T' rfl X'
    exact ⟨t2, st.trans a1, b1⟩
theorem vx_calld {S SX : Type} {post : UInt64 → S → Prop} {px : SX → Prop} {B : S → State → Prop} {BX : String → SX → State → Prop} {AX : Nat → Prop} (hr : vx_Run p l e R s m args below meth c H locs cells slots mc ms (F0 m pc ls st0) rest (va_Qd post B A1 a) (vx_X px BX AX) free) (hS : va_S A0 H0 H locs) (hA : ∀ q, q < H.size → A1 q → A0 q) (hf : ∀ q, free q → A0 q) (hAX : ∀ q, q < H.size → AX q → A0 q)
    (kx : ∀ (E : String) (ce : Cell) (q9 : Addr) (u : SX) (t : State) (H1 : Heap) (locs1 : List Loc), t.heap = H1 → s.vm.Alike t.vm → px u → BX E u t → H.size ≤ H1.size → (∀ q : Nat, q < H.size → ¬ AX q → H1[q]? = H[q]?) → va_S A0 H0 H1 locs1 → H1[q9]? = some ce → ce.vm = .none → s.vm.findClass E = some ce.cls → vx_W p l e R s m args below meth c H1 locs1 (cells + mc) (slots + ms) Q (F0 m pc ls rest) q9)
    (kk : ∀ (r : UInt64) (u : S) (t : State) (H1 : Heap) (locs1 : List Loc), t.heap = H1 → s.vm.Alike t.vm → post r u → B u t → H.size ≤ H1.size → (∀ q : Nat, q < H.size → ¬ A1 q → H1[q]? = H[q]?) → va_S A0 H0 H1 locs1 → W p l e R s m args below meth c H1 locs1 (cells + mc) (slots + ms) Q (F0 m (pc + 3) ls (.double r :: rest))) : W p l e R s m args below meth c H locs cells slots Q (F0 m pc ls st0) := by
  intro T hT X
  rcases hr T hT X with ⟨v, st₀, t, T', L, h0, X', hL, e1, e2, ⟨⟨r, u, hv, hp, hb⟩, hF⟩, st⟩ | ⟨q, st₀, t, T', L, E, ce, h0, X', hL, e1, e2, ⟨u, hp, hb, hF⟩, hce, hcv, hcl, st⟩
  · cases hv
    obtain ⟨k1, k2, k3⟩ := vx_keep h0 e1 hS hA hf hL hF
    obtain ⟨t2, a1, b1⟩ := kk r u t T'.heap (locs ++ L) e1.symm (by rw [← e2]; exact X'.warmed.alike) hp hb k1 k2 k3 T' rfl X'
    exact ⟨t2, st t2 a1, b1⟩
  · obtain ⟨k1, k2, k3⟩ := vx_keep h0 e1 hS hAX hf hL hF
    obtain ⟨t2, a1, b1⟩ := kx E ce q u t T'.heap (locs ++ L) e1.symm (by rw [← e2]; exact X'.warmed.alike) hp hb k1 k2 k3 (by rw [e1]; exact hce) hcv hcl T' rfl X'
    exact ⟨t2, st.trans a1, b1⟩
theorem vx_callv {S SX : Type} {post : S → Prop} {px : SX → Prop} {B : S → State → Prop} {BX : String → SX → State → Prop} {AX : Nat → Prop} (hr : vx_Run p l e R s m args below meth c H locs cells slots mc ms (F0 m pc ls st0) rest (va_Qv post B A1 a) (vx_X px BX AX) free) (hS : va_S A0 H0 H locs) (hA : ∀ q, q < H.size → A1 q → A0 q) (hf : ∀ q, free q → A0 q) (hAX : ∀ q, q < H.size → AX q → A0 q)
    (kx : ∀ (E : String) (ce : Cell) (q9 : Addr) (u : SX) (t : State) (H1 : Heap) (locs1 : List Loc), t.heap = H1 → s.vm.Alike t.vm → px u → BX E u t → H.size ≤ H1.size → (∀ q : Nat, q < H.size → ¬ AX q → H1[q]? = H[q]?) → va_S A0 H0 H1 locs1 → H1[q9]? = some ce → ce.vm = .none → s.vm.findClass E = some ce.cls → vx_W p l e R s m args below meth c H1 locs1 (cells + mc) (slots + ms) Q (F0 m pc ls rest) q9)
    (kk : ∀ (u : S) (t : State) (H1 : Heap) (locs1 : List Loc), t.heap = H1 → s.vm.Alike t.vm → post u → B u t → H.size ≤ H1.size → (∀ q : Nat, q < H.size → ¬ A1 q → H1[q]? = H[q]?) → va_S A0 H0 H1 locs1 → W p l e R s m args below meth c H1 locs1 (cells + mc) (slots + ms) Q (F0 m (pc + 3) ls (rest))) : W p l e R s m args below meth c H locs cells slots Q (F0 m pc ls st0) := by
  intro T hT X
  rcases hr T hT X with ⟨v, st₀, t, T', L, h0, X', hL, e1, e2, ⟨⟨u, hv, hp, hb⟩, hF⟩, st⟩ | ⟨q, st₀, t, T', L, E, ce, h0, X', hL, e1, e2, ⟨u, hp, hb, hF⟩, hce, hcv, hcl, st⟩
  · cases hv
    obtain ⟨k1, k2, k3⟩ := vx_keep h0 e1 hS hA hf hL hF
    obtain ⟨t2, a1, b1⟩ := kk u t T'.heap (locs ++ L) e1.symm (by rw [← e2]; exact X'.warmed.alike) hp hb k1 k2 k3 T' rfl X'
    exact ⟨t2, st t2 a1, b1⟩
  · obtain ⟨k1, k2, k3⟩ := vx_keep h0 e1 hS hAX hf hL hF
    obtain ⟨t2, a1, b1⟩ := kx E ce q u t T'.heap (locs ++ L) e1.symm (by rw [← e2]; exact X'.warmed.alike) hp hb k1 k2 k3 (by rw [e1]; exact hce) hcv hcl T' rfl X'
    exact ⟨t2, st.trans a1, b1⟩
/-- caught by the row x of this method's table; the rows ahead don't take it -/
theorem vx_catch {own name : String} {E : String} {ce : Cell} {q : Addr} (hown : s.vm.findClass own = some m.cls) (pre : List ExceptionTableEntry) (x : ExceptionTableEntry) (suf : List ExceptionTableEntry) (hsplit : c.exceptionTable.toList = pre ++ x :: suf)
    (hpass : ∀ z ∈ pre, covers z pc = false ∨ (z.catchType ≠ 0 ∧ ∃ nm : String, (Cond.classLink own z.catchType nm).before args s = true ∧ va_Nc E nm s)) (hx : covers x pc = true) (h0 : x.catchType ≠ 0)
    (hlink : (Cond.classLink own x.catchType name).before args s = true) (hcast : (Cond.castable E name).before args s = true) (hcell : H[q]? = some ce) (hv : ce.vm = .none) (hcl : s.vm.findClass E = some ce.cls)
    (kk : W p l e R s m args below meth c H locs cells slots Q (F0 m x.handlerPc ls [.ref q])) : vx_W p l e R s m args below meth c H locs cells slots Q (F0 m pc ls rest) q := by
  intro T hT X
  have hpl : e.platform.magicAccessors = ({} : Platform).magicAccessors := by rw [X.admits.platform]
  obtain ⟨c3, c4, hc3, hc4, hasg⟩ := Cond.castable_spec hcast
  cases Option.some.inj (hc3.symm.trans hcl)
  obtain ⟨c5, hc5, hcl5⟩ := Cond.classLink_spec hown hlink e.platform hpl
  cases Option.some.inj (hc4.symm.trans hc5)
  obtain ⟨vm', X', st⟩ := ct_caught X q (g := F0 m pc ls rest) rfl (by rw [hT]; exact hcell) (by rw [hv]; rfl) (by obtain ⟨k9, h9, -⟩ := Vm.findClass_spec hcl; exact ⟨k9, h9⟩) pre x suf hsplit
    (fun z hz => by
      rcases hpass z hz with h | ⟨hz0, nm, hl1, hn1⟩
      · exact Or.inl h
      · obtain ⟨c6, hc6, hcl6⟩ := Cond.classLink_spec hown hl1 e.platform hpl
        obtain ⟨a8, b8, h1, h2, h3⟩ := hn1
        cases Option.some.inj (h1.symm.trans hcl)
        cases Option.some.inj (h2.symm.trans hc6)
        exact Or.inr ⟨hz0, _, hcl6, h3⟩) hx h0 hcl5 hasg
  obtain ⟨t, a1, b1⟩ := kk (T.setVm vm') hT X'
  exact ⟨t, st t a1, b1⟩
end Rows
section Ends
variable {p : Program} {l : Launch} {e : Env} {R : Room} {s : State} {m : MethodId} {args : Array Value} {below : List Frame} {meth : Method} {c : Code} {H : Heap} {locs : List Loc} {cells slots : Nat} {Q : State → Prop}
variable {mc ms : Nat} {free : Addr → Prop} {A0 A1 : Nat → Prop} {H0 : Heap} {a : Array Value} {ls : Array Slot} {st0 rest : List Value}
variable {Qc : Array Value → State → Outcome → State → Prop} {XC : String → State → State → Prop}
/-- what a body that may throw owes at its end -/
def vx_MQ (below : List Frame) (Qc : Array Value → State → Outcome → State → Prop) (XC : String → State → State → Prop) (a : Array Value) (s : State) (mc ms : Nat) (free : Addr → Prop) : State → Prop := fun t =>
  ∃ o, t.status = .running ∧ Ended t below o ∧ vx_Q Qc XC mc ms free a s o t
theorem vx_ret {g : JFrame} {mc ms : Nat} (k : W p l e R s m args below meth c H locs cells slots (MQ below Qc args s mc ms free) g) : W p l e R s m args below meth c H locs cells slots (vx_MQ below Qc XC args s mc ms free) g := by
  intro T hT X
  obtain ⟨t, a1, o, b1, b2, b3, b4⟩ := k T hT X
  exact ⟨t, a1, o, b1, b2, Or.inl ⟨b3, b4⟩⟩
/-- not caught here: it goes on to the caller -/
theorem vx_widen {g : JFrame} {q : Addr} {k n : Nat} (h1 : cells ≤ k) (h2 : slots ≤ n) (kk : vx_W p l e R s m args below meth c H locs k n Q g q) : vx_W p l e R s m args below meth c H locs cells slots Q g q := fun T hT X => kk T hT (stand_widen X h1 h2)
theorem vx_out {pc : Nat} {E : String} {ce : Cell} {q : Addr} {mc ms : Nat} (hout : ∀ x ∈ c.exceptionTable.toList, covers x pc = false) (hlocks : meth.locks = false) (hcell : H[q]? = some ce) (hv : ce.vm = .none) (hcl : s.vm.findClass E = some ce.cls)
    (hx : ∀ t : State, t.heap = H → s.vm.Alike t.vm → XC E s t) (hf : ∀ z ∈ locs, free z.base) (hc : cells ≤ mc) (hs : slots ≤ ms) :
    vx_W p l e R s m args below meth c H locs cells slots (vx_MQ below Qc XC args s mc ms free) (F0 m pc ls rest) q := by
  intro T hT X
  obtain ⟨st1, hrun, hend, hW, hsm⟩ := X.leaveThrown q (g := F0 m pc ls rest) rfl rfl rfl hout hlocks
  have hcell9 : (T.setFrames (.throwing q :: below)).heap[q]? = some ce := by
    show T.heap[q]? = some ce
    rw [hT]; exact hcell
  exact ⟨_, st1, .threw q, hrun, hend, Or.inr ⟨q, rfl, E, ce, locs, hx _ hT hW.alike, hcell9, hv, hcl, hW, hsm.mono hc hs, hf⟩⟩
theorem vx_frame {U : State} {k n : Nat} (h : s.sameButNew ({ U with vm := s.vm } : State) locs k n) : s.heap.size ≤ U.heap.size ∧ ∀ q : Nat, q < s.heap.size → (∀ z ∈ locs, z.base ≠ q) → U.heap[q]? = s.heap[q]? := by
  obtain ⟨-, h2, -, -, -, h6⟩ := h
  refine ⟨h2, fun q hq hz => ?_⟩
  obtain ⟨c9, e1, e2, e3, e4⟩ := h6 q _ (Array.getElem?_eq_getElem hq)
  have hs : c9.slots = (s.heap[q]).slots := Array.ext_getElem? fun i => e4 i fun hm => hz _ hm rfl
  have h9 : c9 = s.heap[q] := by
    rw [hs] at e2
    exact e2
  have e5 : U.heap[q]? = some c9 := e1
  rw [e5, h9, Array.getElem?_eq_getElem hq]
/-- the words of a throw but the four that speak of the heap -/
def vx_no (w : Cond) : Bool := decide (w ≠ .isRef (.static Bundle.tN "UNASSIGNED_STACK" Bundle.steD)) && decide (w ≠ .isRef (.static Bundle.tN "SUPPRESSED_SENTINEL" Bundle.listD)) && decide (w ≠ .laysStatic Bundle.tN "UNASSIGNED_STACK" Bundle.steD) && decide (w ≠ .laysStatic Bundle.tN "SUPPRESSED_SENTINEL" Bundle.listD)
def vx_at0 (own : String) (ic : Nat) (X : String) (names : List String) : List Cond := (Bundle.ownAtoms0 own ic X names).filter vx_no
def vx_atS (own : String) (ic : Nat) (X : String) (names : List String) : List Cond := (Bundle.ownAtoms own ic X names).filter vx_no
/-- a word that the tables alone decide, or a good one -/
def vx_ot (w : Cond) : Bool := w.onTables || goodWord w
theorem vx_ot_at {args a' : Array Value} {s U : State} {w : Cond} (hW : s.WarmedH U.vm) (hvm : s.vm = U.vm) (hg : vx_ot w = true) (h : w.before args s = true) : w.before a' U = true := by
  simp only [vx_ot, Bool.or_eq_true] at hg
  rcases hg with hg | hg
  · exact va_tabs hg hvm h
  · exact word_at hW (good_of_word hg) h
/-- a list's words: the good ones out of the method's own list, the others by premises of their own -/
theorem vx_hat {args : Array Value} {s : State} {L B : List Cond} (h1 : ∀ w ∈ L.filter goodWord, w.before args s = true) (h2 : ∀ w ∈ L.filter (fun w => !goodWord w), w ∈ B) (h3 : ∀ w ∈ B, w.before args s = true) : ∀ w ∈ L, w.before args s = true := by
  intro w hw
  by_cases g : goodWord w = true
  · exact h1 w (List.mem_filter.mpr ⟨hw, g⟩)
  · refine h3 w (h2 w (List.mem_filter.mpr ⟨hw, ?_⟩))
    show (!goodWord w) = true
    cases hgw : goodWord w
    · rfl
    · exact absurd hgw g
theorem vx_c {args : Array Value} {s : State} {w : Cond} {B : List Cond} (h : w.before args s = true) (t : ∀ w ∈ B, w.before args s = true) : ∀ w' ∈ w :: B, w'.before args s = true := fun w' h' => (List.mem_cons.mp h').elim (fun e => by rw [e]; exact h) (t w')
theorem vx_n {args : Array Value} {s : State} : ∀ w ∈ ([] : List Cond), w.before args s = true := fun _ h => nomatch h
theorem vx_own {args : Array Value} {s : State} {L : List Cond} (h1 : ∀ w ∈ L.filter vx_no, w.before args s = true)
    (hU : (Cond.isRef (.static Bundle.tN "UNASSIGNED_STACK" Bundle.steD)).before args s = true) (hN : (Cond.isRef (.static Bundle.tN "SUPPRESSED_SENTINEL" Bundle.listD)).before args s = true)
    (lU : (Cond.laysStatic Bundle.tN "UNASSIGNED_STACK" Bundle.steD).before args s = true) (lN : (Cond.laysStatic Bundle.tN "SUPPRESSED_SENTINEL" Bundle.listD).before args s = true) : ∀ w ∈ L, w.before args s = true := by
  intro w hw
  by_cases e1 : w = .isRef (.static Bundle.tN "UNASSIGNED_STACK" Bundle.steD)
  · rw [e1]; exact hU
  · by_cases e2 : w = .isRef (.static Bundle.tN "SUPPRESSED_SENTINEL" Bundle.listD)
    · rw [e2]; exact hN
    · by_cases e3 : w = .laysStatic Bundle.tN "UNASSIGNED_STACK" Bundle.steD
      · rw [e3]; exact lU
      · by_cases e4 : w = .laysStatic Bundle.tN "SUPPRESSED_SENTINEL" Bundle.listD
        · rw [e4]; exact lN
        · exact h1 w (List.mem_filter.mpr ⟨hw, by unfold vx_no; rw [decide_eq_true e1, decide_eq_true e2, decide_eq_true e3, decide_eq_true e4]; rfl⟩)
/-- where a static field lies, its class's statics cell in H -/
def vx_L (C n d : String) (A : Nat → Prop) (U : State) (H : Heap) : Prop := ∃ (c : ClassId) (k : Class) (i : Nat) (f : Field) (a : Nat) (cell : Cell), U.vm.findClass C = some c ∧ U.fieldFound? C n d = some (c, k, i, f) ∧ f.isStatic = true ∧ k.statics = some a ∧ H[a]? = some cell ∧ cell.vm.isStatics = true ∧ cell.cls = c ∧ f.slot < cell.slots.size ∧ k.staticTypes[f.slot]? = some f.type ∧ ¬ A a
theorem vx_L.moved {C n d : String} {A : Nat → Prop} {u U : State} {H : Heap} (hvm : u.vm.Alike U.vm) (h : vx_L C n d A u H) : vx_L C n d A U H := by
  obtain ⟨c, k, i, f, a, cell, h1, h2, h3, h4, h5, h6, h7, h8, h9, h10⟩ := h
  obtain ⟨k', hi', he⟩ := State.fieldFound?_setVm hvm h2
  exact ⟨c, k', i, f, a, cell, by rw [hvm.findClass]; exact h1, hi', h3, by rw [he]; exact h4, h5, h6, h7, h8, by rw [he]; exact h9, h10⟩
theorem vx_L.kept {C n d : String} {A : Nat → Prop} {U : State} {H H1 : Heap} (h : vx_L C n d A U H) (hq : ∀ a : Nat, a < H.size → ¬ A a → H1[a]? = H[a]?) : vx_L C n d A U H1 := by
  obtain ⟨c, k, i, f, a, cell, h1, h2, h3, h4, h5, h6, h7, h8, h9, h10⟩ := h
  exact ⟨c, k, i, f, a, cell, h1, h2, h3, h4, by rw [hq a (Array.getElem?_eq_some_iff.mp h5).1 h10]; exact h5, h6, h7, h8, h9, h10⟩
theorem vx_L.narrow {C n d : String} {A B : Nat → Prop} {U : State} {H : Heap} (h : vx_L C n d A U H) (hAB : ∀ q, B q → A q) : vx_L C n d B U H := by
  obtain ⟨c, k, i, f, a, cell, h1, h2, h3, h4, h5, h6, h7, h8, h9, h10⟩ := h
  exact ⟨c, k, i, f, a, cell, h1, h2, h3, h4, h5, h6, h7, h8, h9, fun z => h10 (hAB _ z)⟩
theorem vx_L.word {C n d : String} {A : Nat → Prop} {s : State} {args : Array Value} (h : vx_L C n d A s s.heap) : (Cond.laysStatic C n d).before args s = true := by
  obtain ⟨c, k, i, f, a, cell, h1, h2, h3, h4, h5, h6, h7, h8, h9, -⟩ := h
  show (Cond.laysStatic C n d).holds args s none s [] = true
  exact Cond.laysStatic_of h1 h2 h3 h4 h5 h6 h7 h8 h9
/-- .. and what it holds: null or some reference -/
def vx_Zq (C n d : String) (A : Nat → Prop) (U : State) (H : Heap) : Prop := va_Zq C n d A U H ∧ vx_L C n d A U H
theorem vx_Zq.moved {C n d : String} {A : Nat → Prop} {u U : State} {H : Heap} (hvm : u.vm.Alike U.vm) (h : vx_Zq C n d A u H) : vx_Zq C n d A U H := ⟨va_Zq.moved hvm h.1, vx_L.moved hvm h.2⟩
theorem vx_Zq.kept {C n d : String} {A : Nat → Prop} {U : State} {H H1 : Heap} (h : vx_Zq C n d A U H) (hq : ∀ a : Nat, a < H.size → ¬ A a → H1[a]? = H[a]?) : vx_Zq C n d A U H1 := ⟨va_Zq.kept h.1 hq, vx_L.kept h.2 hq⟩
theorem vx_Zq.narrow {C n d : String} {A B : Nat → Prop} {U : State} {H : Heap} (h : vx_Zq C n d A U H) (hAB : ∀ q, B q → A q) : vx_Zq C n d B U H := ⟨va_Zq.narrow h.1 hAB, vx_L.narrow h.2 hAB⟩
theorem vx_Zqof {args : Array Value} {s : State} {C n d : String} {A : Nat → Prop} (hl : (Cond.laysStatic C n d).before args s = true) (hini : (Cond.initialized C).before args s = true) (h : (Cond.isRef (.static C n d)).before args s = true) (hA : ∀ a : Nat, a < s.heap.size → ¬ A a) : vx_Zq C n d A s s.heap := by
  refine ⟨va_Zqof hl hini h hA, ?_⟩
  obtain ⟨c, k, i, f, a, cell, h1, h2, h3, h4, h5, h6, h7, h8, h9⟩ := Cond.laysStatic_spec hl
  exact ⟨c, k, i, f, a, cell, h1, h2, h3, h4, h5, h6, h7, h8, h9, hA a (Array.getElem?_eq_some_iff.mp h5).1⟩
theorem vx_isRef {C n d : String} {v : Value} {A : Nat → Prop} {s : State} {args : Array Value} (h : va_Z C n d v A s s.heap) (hv : v.isRef = true) : (Cond.isRef (.static C n d)).before args s = true := by
  obtain ⟨cf, kf, fi, f, a, cell, h1, h2, h3, h4, h5, h6, h7, -⟩ := h
  have he : (Term.static C n d).eval args s none [] s = some v := by
    simp [Term.eval, State.fieldNamed?, h1, h2, h4, h5, h6, h7]
  simp only [Cond.before, Cond.holds, Cond.value, he]
  cases v <;> simp_all [Value.isRef]
theorem vx_isRefq {C n d : String} {A : Nat → Prop} {s : State} {args : Array Value} (h : va_Zq C n d A s s.heap) : (Cond.isRef (.static C n d)).before args s = true := by
  rcases h with h | ⟨t, h⟩
  · exact vx_isRef h rfl
  · exact vx_isRef h rfl
/-- the same frame, seen from here: as if the method were called anew in this heap -/
theorem vx_rebase {T : State} (X : Stand p l e R s m args below meth c T locs cells slots) {R' : Room} (hf : R'.frames ≤ R.frames) (hl : R'.locals ≤ R.locals) (hc : cells + R'.cells ≤ R.cells) (hs : slots + R'.slots ≤ R.slots) :
    Stand p l e R' ((T.setVm s.vm).setFrames (.invoking m args :: below)) m args below meth c T [] 0 0 := by
  have htop : (T.setVm s.vm).topJava?.isSome := X.here.top
  have hF : ((T.setVm s.vm).setFrames (.invoking m args :: below)).frames = .invoking m args :: below := State.frames_setFrames _ (State.cur_lt_of_top htop)
  obtain ⟨g₀, hg0⟩ := Option.isSome_iff_exists.mp htop
  obtain ⟨r, hr⟩ := State.topJava?_eq_some.mp hg0
  have hl9 : e.platform.stackLimits (T.setVm s.vm).me = e.platform.stackLimits s.me := X.limits
  have hb9 : (T.setVm s.vm).me.stackBytes = s.me.stackBytes := X.bytes
  refine ⟨X.admits, X.cas, X.clock, hF, ?_, X.hears, X.method, X.code, X.here, X.tail, X.warmed, ?_, ?_, ?_⟩
  · have h := X.room
    have hU : ((T.setVm s.vm).setFrames (.invoking m args :: below)).localsInUse = s.localsInUse := by
      rw [State.localsInUse_invoking hF (meth := meth) (c := c) X.method X.code, State.localsInUse_invoking X.frames X.method X.code]
    simp only [State.hasRoom, Bool.and_eq_true, decide_eq_true_eq] at h ⊢
    obtain ⟨⟨⟨⟨h1, h2, h3, h4, h5, h6⟩, h7⟩, h8⟩, h9⟩ := h
    rw [X.frames, List.length_cons] at h2 h3
    have q1 := X.heapSize
    have q2 := X.used
    simp only [hF, hU, List.length_cons, State.stackLimits_setFrames, State.stackBytes_setFrames, hl9, hb9]
    refine ⟨⟨⟨⟨by omega, by omega, by omega, by omega, by omega, h6⟩, ?_⟩, ?_⟩, X.book⟩
    · show T.heap.size + R'.cells ≤ e.platform.maxCells
      omega
    · show T.slotsUsed + R'.slots ≤ e.platform.maxSlots
      omega
  · rw [State.stackLimits_setFrames]; rfl
  · rw [State.stackBytes_setFrames]; rfl
  · refine ⟨?_, Nat.le_refl _, Nat.le_refl _, ?_, ?_, fun a c9 h9 => ⟨c9, h9, rfl, rfl, fun _ _ => rfl⟩⟩
    · obtain ⟨t, ht, -⟩ := State.frames_cons hr
      show T.setVm s.vm = { ((T.setVm s.vm).setFrames (.invoking m args :: below)).setFrames (T.setVm s.vm).frames with heap := T.heap, slotsUsed := T.slotsUsed }
      rw [State.setFrames_setFrames, State.setFrames_self ht]
      rfl
    · show T.slotsUsed = T.slotsUsed + ((T.heap.toList.drop T.heap.size).map (·.slots.size)).sum
      rw [List.drop_eq_nil_of_le (Nat.le_of_eq Array.length_toList)]
      rfl
    · show ((T.heap.toList.drop T.heap.size).map (·.slots.size)).sum ≤ 0
      rw [List.drop_eq_nil_of_le (Nat.le_of_eq Array.length_toList)]
      exact Nat.le_refl _
/-- 'throw new E()': new; dup; invokespecial; athrow -/
theorem vx_throw0 {cc : ByteArray} {pc : Nat} (hexec : p.tables.exec = Jvm.exec) (hb : c.code = cc) (hl : l.stackTraces = false) {own cls : String} {names : List String} {ik ic mc ms : Nat} {A : Nat → Prop}
    (hown : s.vm.findClass own = some m.cls) (hcls : Bundle.fit cls = true) (hnames : ∀ n ∈ names, Bundle.fit n = true)
    (hk : (Cond.classLink own ik cls).before args s = true) (hini : (Cond.initialized cls).before args s = true) (hat : ∀ w ∈ vx_at0 own ic cls names, w.before args s = true)
    (hgood : ∀ w ∈ Cond.classLink own ik cls :: Cond.initialized cls :: vx_at0 own ic cls names, vx_ot w = true)
    (hU : vx_Zq Bundle.tN "UNASSIGNED_STACK" Bundle.steD A s s.heap) (hN : vx_Zq Bundle.tN "SUPPRESSED_SENTINEL" Bundle.listD A s s.heap) (hS : va_S A s.heap H locs) (hsize : ls.size = c.maxLocals)
    (d0 : decode cc pc = .ok (.new ik, 3)) (d3 : decode cc (pc + 3) = .ok (.dup, 1)) (d4 : decode cc (pc + 4) = .ok (.invokespecial ic, 3)) (d7 : decode cc (pc + 7) = .ok (.athrow, 1))
    (hout : ∀ x ∈ c.exceptionTable.toList, covers x (pc + 7) = false)
    (hRframes : names.length + 3 < R.frames) (hRlocals : (rest.map fun v => v.category).sum + (13 * (names.length + 1) + 42) ≤ R.locals) (hRcells : cells + 1 ≤ R.cells) (hRslots : slots + 6 ≤ R.slots) (hlocks : meth.locks = false)
    (hx : ∀ t : State, s.vm.Alike t.vm → H.size ≤ t.heap.size → (∀ q : Nat, q < H.size → t.heap[q]? = H[q]?) → XC cls s t)
    (hf : ∀ z ∈ locs, free z.base) (hc : cells + 1 ≤ mc) (hs : slots + 6 ≤ ms) :
    W p l e R s m args below meth c H locs cells slots (vx_MQ below Qc XC args s mc ms free) (F0 m pc ls rest) := by
  intro T hT X
  have htr : e.platform.stackTraces = false := (show e.platform.stackTraces = l.stackTraces by rw [X.admits.platform]).trans hl
  have Y := vx_rebase X (R' := { frames := R.frames, locals := R.locals, cells := 1, slots := 6 }) (Nat.le_refl _) (Nat.le_refl _) hRcells hRslots
  obtain ⟨s', hA⟩ : ∃ z, z = (T.setVm s.vm).setFrames (.invoking m args :: below) := ⟨_, rfl⟩
  rw [← hA] at Y
  have hvm : s'.vm = s.vm := by rw [hA]; rfl
  have hhp : s'.heap = H := by rw [hA]; exact hT
  have hW0 : s.WarmedH s'.vm := by rw [hvm]; exact State.WarmedH.refl s
  have hat' : ∀ w ∈ vx_at0 own ic cls names, w.before args s' = true := fun w hw => vx_ot_at hW0 hvm.symm (hgood w (List.mem_cons_of_mem _ (List.mem_cons_of_mem _ hw))) (hat w hw)
  have hk' : (Cond.classLink own ik cls).before args s' = true := vx_ot_at hW0 hvm.symm (hgood _ List.mem_cons_self) hk
  have hini' : (Cond.initialized cls).before args s' = true := vx_ot_at hW0 hvm.symm (hgood _ (List.mem_cons_of_mem _ List.mem_cons_self)) hini
  have hU' : vx_Zq Bundle.tN "UNASSIGNED_STACK" Bundle.steD A s' s'.heap := by rw [hhp]; exact vx_Zq.moved hW0.alike (hU.kept hS.2.1)
  have hN' : vx_Zq Bundle.tN "SUPPRESSED_SENTINEL" Bundle.listD A s' s'.heap := by rw [hhp]; exact vx_Zq.moved hW0.alike (hN.kept hS.2.1)
  have h : ∀ w ∈ Bundle.ownAtoms0 own ic cls names, w.before args s' = true := vx_own hat' (vx_isRefq hU'.1) (vx_isRefq hN'.1) hU'.2.word hN'.2.word
  have hown' : s'.vm.findClass own = some m.cls := by rw [hvm]; exact hown
  have hins : (Cond.instantiable cls 6).before args s' = true := h _ (by simp [Bundle.ownAtoms0])
  obtain ⟨vm₁, cX, kX, hfX, hkX, -, -, X₁, st1⟩ := Y.newCold hexec (own := own) (C := cls) (index := ik) (n := 6) hown' hk' hins hini'
    (g := F0 m pc ls rest) rfl (by rw [hb]; exact d0) (Nat.le_refl _) (Nat.le_refl _)
  generalize hT1 : (T.setVm vm₁).pushCell { cls := cX, slots := kX.instanceTypes.map defaultValue, vm := .none } = T1 at X₁ st1
  have hcat : (Value.ref T.heap.size).category = 1 := rfl
  have hcellA : T1.heap[T.heap.size]? = some (freshCell cX kX) := by rw [← hT1]; exact State.heap_pushCell_size _ _
  have d3' : decode c.code (pc + 3) = .ok (.dup, 1) := by rw [hb]; exact d3
  obtain ⟨U, hsteps, hrun, hend, hW, hsame, ce, hce, hO⟩ := X₁.ctorThrow0 hexec htr (own := own) (cls := cls) (names := names) (ic := ic) hown' hcls hnames h (fun x hx => nomatch hx) hfX hkX hcellA (by rw [hhp, hT]; exact Nat.le_refl _)
    (g := { method := m, pc := pc + 4, locals := ls, stack := .ref T.heap.size :: .ref T.heap.size :: rest, locked := none }) rfl hsize rfl rfl (rest := rest) rfl
    (by rw [hb]; exact d4) (by rw [hb]; exact d7) hout hRframes (by simp only [List.map_cons, List.sum_cons, hcat]; omega) hlocks
  obtain ⟨f1, f2⟩ := vx_frame hsame
  rw [hhp] at f1 f2
  have hWs : s.WarmedH U.vm := State.WarmedH.trans hW0 hW
  have hcl : s.vm.findClass cls = some ce.cls := by
    have h9 := hO.cls
    rw [hvm] at h9
    exact h9
  have hall : s.sameButNew ({ U with vm := s.vm } : State) locs mc ms := by
    subst hA
    obtain ⟨e1, e2⟩ := hsame
    rw [State.setFrames_setFrames] at e1
    have h2 : (T.setVm s.vm).sameButNew ({ U with vm := s.vm } : State) [] (0 + 1) (0 + 6) := ⟨e1, e2⟩
    have h3 := X.same.trans h2
    rw [List.append_nil] at h3
    exact h3.mono hc hs
  refine ⟨U, ?_, .threw T.heap.size, hrun, hend, Or.inr ⟨T.heap.size, rfl, cls, ce, locs, hx U hWs.alike f1 (fun q hq => f2 q hq (fun z hz => nomatch hz)), hce, hO.vm, hcl, hWs, hall, hf⟩⟩
  refine st1 _ ?_
  show Steps p.tables e below (T1.setTop { method := m, pc := pc + 3, locals := ls, stack := .ref T.heap.size :: rest, locked := none }) _
  jvm_step X₁.here [X₁.here.top, hexec, d3', Value.category]
  exact hsteps
/-- 'throw new E("text")': new; dup; ldc; invokespecial; athrow -/
theorem vx_throwS {cc : ByteArray} {pc : Nat} (hexec : p.tables.exec = Jvm.exec) (hb : c.code = cc) (hl : l.stackTraces = false) {own cls text : String} {names : List String} {ik is ic mc ms sa : Nat} {A : Nat → Prop}
    (hown : s.vm.findClass own = some m.cls) (hcls : Bundle.fit cls = true) (hnames : ∀ n ∈ names, Bundle.fit n = true)
    (hk : (Cond.classLink own ik cls).before args s = true) (hini : (Cond.initialized cls).before args s = true) (hstr : vk_R own is text sa s) (hat : ∀ w ∈ vx_atS own ic cls names, w.before args s = true)
    (hgood : ∀ w ∈ Cond.classLink own ik cls :: Cond.initialized cls :: vx_atS own ic cls names, vx_ot w = true)
    (hU : vx_Zq Bundle.tN "UNASSIGNED_STACK" Bundle.steD A s s.heap) (hN : vx_Zq Bundle.tN "SUPPRESSED_SENTINEL" Bundle.listD A s s.heap) (hS : va_S A s.heap H locs) (hsize : ls.size = c.maxLocals)
    (d0 : decode cc pc = .ok (.new ik, 3)) (d3 : decode cc (pc + 3) = .ok (.dup, 1)) (d4 : decode cc (pc + 4) = .ok (.ldc is, 2)) (d6 : decode cc (pc + 6) = .ok (.invokespecial ic, 3)) (d9 : decode cc (pc + 9) = .ok (.athrow, 1))
    (hout : ∀ x ∈ c.exceptionTable.toList, covers x (pc + 9) = false)
    (hRframes : names.length + 3 < R.frames) (hRlocals : (rest.map fun v => v.category).sum + (13 * (names.length + 1) + 43) ≤ R.locals) (hRcells : cells + 1 ≤ R.cells) (hRslots : slots + 6 ≤ R.slots) (hlocks : meth.locks = false)
    (hx : ∀ t : State, s.vm.Alike t.vm → H.size ≤ t.heap.size → (∀ q : Nat, q < H.size → t.heap[q]? = H[q]?) → XC cls s t)
    (hf : ∀ z ∈ locs, free z.base) (hc : cells + 1 ≤ mc) (hs : slots + 6 ≤ ms) :
    W p l e R s m args below meth c H locs cells slots (vx_MQ below Qc XC args s mc ms free) (F0 m pc ls rest) := by
  intro T hT X
  have htr : e.platform.stackTraces = false := (show e.platform.stackTraces = l.stackTraces by rw [X.admits.platform]).trans hl
  have Y := vx_rebase X (R' := { frames := R.frames, locals := R.locals, cells := 1, slots := 6 }) (Nat.le_refl _) (Nat.le_refl _) hRcells hRslots
  obtain ⟨s', hA⟩ : ∃ z, z = (T.setVm s.vm).setFrames (.invoking m args :: below) := ⟨_, rfl⟩
  rw [← hA] at Y
  have hvm : s'.vm = s.vm := by rw [hA]; rfl
  have hhp : s'.heap = H := by rw [hA]; exact hT
  have hW0 : s.WarmedH s'.vm := by rw [hvm]; exact State.WarmedH.refl s
  have hat' : ∀ w ∈ vx_atS own ic cls names, w.before args s' = true := fun w hw => vx_ot_at hW0 hvm.symm (hgood w (List.mem_cons_of_mem _ (List.mem_cons_of_mem _ hw))) (hat w hw)
  have hk' : (Cond.classLink own ik cls).before args s' = true := vx_ot_at hW0 hvm.symm (hgood _ List.mem_cons_self) hk
  have hini' : (Cond.initialized cls).before args s' = true := vx_ot_at hW0 hvm.symm (hgood _ (List.mem_cons_of_mem _ List.mem_cons_self)) hini
  have hU' : vx_Zq Bundle.tN "UNASSIGNED_STACK" Bundle.steD A s' s'.heap := by rw [hhp]; exact vx_Zq.moved hW0.alike (hU.kept hS.2.1)
  have hN' : vx_Zq Bundle.tN "SUPPRESSED_SENTINEL" Bundle.listD A s' s'.heap := by rw [hhp]; exact vx_Zq.moved hW0.alike (hN.kept hS.2.1)
  have h : ∀ w ∈ Bundle.ownAtoms own ic cls names, w.before args s' = true := vx_own hat' (vx_isRefq hU'.1) (vx_isRefq hN'.1) hU'.2.word hN'.2.word
  have hown' : s'.vm.findClass own = some m.cls := by rw [hvm]; exact hown
  have hins : (Cond.instantiable cls 6).before args s' = true := h _ (by simp [Bundle.ownAtoms])
  obtain ⟨vm₁, cX, kX, hfX, hkX, -, -, X₁, st1⟩ := Y.newCold hexec (own := own) (C := cls) (index := ik) (n := 6) hown' hk' hins hini'
    (g := F0 m pc ls rest) rfl (by rw [hb]; exact d0) (Nat.le_refl _) (Nat.le_refl _)
  generalize hT1 : (T.setVm vm₁).pushCell { cls := cX, slots := kX.instanceTypes.map defaultValue, vm := .none } = T1 at X₁ st1
  have hcat : (Value.ref T.heap.size).category = 1 := rfl
  have hcellA : T1.heap[T.heap.size]? = some (freshCell cX kX) := by rw [← hT1]; exact State.heap_pushCell_size _ _
  have d3' : decode c.code (pc + 3) = .ok (.dup, 1) := by rw [hb]; exact d3
  have d4' : decode c.code (pc + 4) = .ok (.ldc is, 2) := by rw [hb]; exact d4
  have hstr' : vk_R own is text sa s' := vk_R.warm hW0 hstr
  obtain ⟨U, hsteps, hrun, hend, hW, hsame, ce, hce, hO⟩ := X₁.ctorThrowS hexec htr (own := own) (cls := cls) (names := names) (ic := ic) hown' hcls hnames h (fun x hx => nomatch hx) hfX hkX hcellA (by rw [hhp, hT]; exact Nat.le_refl _) (msg := .ref sa) rfl
    (g := { method := m, pc := pc + 6, locals := ls, stack := .ref sa :: .ref T.heap.size :: .ref T.heap.size :: rest, locked := none }) rfl hsize rfl rfl (rest := rest) rfl
    (by rw [hb]; exact d6) (by rw [hb]; exact d9) hout hRframes (by simp only [List.map_cons, List.sum_cons, hcat]; omega) hlocks
  obtain ⟨f1, f2⟩ := vx_frame hsame
  rw [hhp] at f1 f2
  have hWs : s.WarmedH U.vm := State.WarmedH.trans hW0 hW
  have hcl : s.vm.findClass cls = some ce.cls := by
    have h9 := hO.cls
    rw [hvm] at h9
    exact h9
  have hall : s.sameButNew ({ U with vm := s.vm } : State) locs mc ms := by
    subst hA
    obtain ⟨e1, e2⟩ := hsame
    rw [State.setFrames_setFrames] at e1
    have h2 : (T.setVm s.vm).sameButNew ({ U with vm := s.vm } : State) [] (0 + 1) (0 + 6) := ⟨e1, e2⟩
    have h3 := X.same.trans h2
    rw [List.append_nil] at h3
    exact h3.mono hc hs
  refine ⟨U, ?_, .threw T.heap.size, hrun, hend, Or.inr ⟨T.heap.size, rfl, cls, ce, locs, hx U hWs.alike f1 (fun q hq => f2 q hq (fun z hz => nomatch hz)), hce, hO.vm, hcl, hWs, hall, hf⟩⟩
  refine st1 _ ?_
  show Steps p.tables e below (T1.setTop { method := m, pc := pc + 3, locals := ls, stack := .ref T.heap.size :: rest, locked := none }) _
  jvm_step X₁.here [X₁.here.top, hexec, d3', Value.category]
  exact X₁.ldcString hexec (own := own) (text := text) (index := is) (a := sa) hown' hstr'.1 hstr'.2
    (g := { method := m, pc := pc + 4, locals := ls, stack := .ref T.heap.size :: .ref T.heap.size :: rest, locked := none }) rfl d4' _ hsteps
/-- 'throw new E("text")', the text by a wide index -/
theorem vx_throwSW {cc : ByteArray} {pc : Nat} (hexec : p.tables.exec = Jvm.exec) (hb : c.code = cc) (hl : l.stackTraces = false) {own cls text : String} {names : List String} {ik is ic mc ms sa : Nat} {A : Nat → Prop}
    (hown : s.vm.findClass own = some m.cls) (hcls : Bundle.fit cls = true) (hnames : ∀ n ∈ names, Bundle.fit n = true)
    (hk : (Cond.classLink own ik cls).before args s = true) (hini : (Cond.initialized cls).before args s = true) (hstr : vk_R own is text sa s) (hat : ∀ w ∈ vx_atS own ic cls names, w.before args s = true)
    (hgood : ∀ w ∈ Cond.classLink own ik cls :: Cond.initialized cls :: vx_atS own ic cls names, vx_ot w = true)
    (hU : vx_Zq Bundle.tN "UNASSIGNED_STACK" Bundle.steD A s s.heap) (hN : vx_Zq Bundle.tN "SUPPRESSED_SENTINEL" Bundle.listD A s s.heap) (hS : va_S A s.heap H locs) (hsize : ls.size = c.maxLocals)
    (d0 : decode cc pc = .ok (.new ik, 3)) (d3 : decode cc (pc + 3) = .ok (.dup, 1)) (d4 : decode cc (pc + 4) = .ok (.ldc_w is, 3)) (d7 : decode cc (pc + 7) = .ok (.invokespecial ic, 3)) (d10 : decode cc (pc + 10) = .ok (.athrow, 1))
    (hout : ∀ x ∈ c.exceptionTable.toList, covers x (pc + 10) = false)
    (hRframes : names.length + 3 < R.frames) (hRlocals : (rest.map fun v => v.category).sum + (13 * (names.length + 1) + 43) ≤ R.locals) (hRcells : cells + 1 ≤ R.cells) (hRslots : slots + 6 ≤ R.slots) (hlocks : meth.locks = false)
    (hx : ∀ t : State, s.vm.Alike t.vm → H.size ≤ t.heap.size → (∀ q : Nat, q < H.size → t.heap[q]? = H[q]?) → XC cls s t)
    (hf : ∀ z ∈ locs, free z.base) (hc : cells + 1 ≤ mc) (hs : slots + 6 ≤ ms) :
    W p l e R s m args below meth c H locs cells slots (vx_MQ below Qc XC args s mc ms free) (F0 m pc ls rest) := by
  intro T hT X
  have htr : e.platform.stackTraces = false := (show e.platform.stackTraces = l.stackTraces by rw [X.admits.platform]).trans hl
  have Y := vx_rebase X (R' := { frames := R.frames, locals := R.locals, cells := 1, slots := 6 }) (Nat.le_refl _) (Nat.le_refl _) hRcells hRslots
  obtain ⟨s', hA⟩ : ∃ z, z = (T.setVm s.vm).setFrames (.invoking m args :: below) := ⟨_, rfl⟩
  rw [← hA] at Y
  have hvm : s'.vm = s.vm := by rw [hA]; rfl
  have hhp : s'.heap = H := by rw [hA]; exact hT
  have hW0 : s.WarmedH s'.vm := by rw [hvm]; exact State.WarmedH.refl s
  have hat' : ∀ w ∈ vx_atS own ic cls names, w.before args s' = true := fun w hw => vx_ot_at hW0 hvm.symm (hgood w (List.mem_cons_of_mem _ (List.mem_cons_of_mem _ hw))) (hat w hw)
  have hk' : (Cond.classLink own ik cls).before args s' = true := vx_ot_at hW0 hvm.symm (hgood _ List.mem_cons_self) hk
  have hini' : (Cond.initialized cls).before args s' = true := vx_ot_at hW0 hvm.symm (hgood _ (List.mem_cons_of_mem _ List.mem_cons_self)) hini
  have hU' : vx_Zq Bundle.tN "UNASSIGNED_STACK" Bundle.steD A s' s'.heap := by rw [hhp]; exact vx_Zq.moved hW0.alike (hU.kept hS.2.1)
  have hN' : vx_Zq Bundle.tN "SUPPRESSED_SENTINEL" Bundle.listD A s' s'.heap := by rw [hhp]; exact vx_Zq.moved hW0.alike (hN.kept hS.2.1)
  have h : ∀ w ∈ Bundle.ownAtoms own ic cls names, w.before args s' = true := vx_own hat' (vx_isRefq hU'.1) (vx_isRefq hN'.1) hU'.2.word hN'.2.word
  have hown' : s'.vm.findClass own = some m.cls := by rw [hvm]; exact hown
  have hins : (Cond.instantiable cls 6).before args s' = true := h _ (by simp [Bundle.ownAtoms])
  obtain ⟨vm₁, cX, kX, hfX, hkX, -, -, X₁, st1⟩ := Y.newCold hexec (own := own) (C := cls) (index := ik) (n := 6) hown' hk' hins hini'
    (g := F0 m pc ls rest) rfl (by rw [hb]; exact d0) (Nat.le_refl _) (Nat.le_refl _)
  generalize hT1 : (T.setVm vm₁).pushCell { cls := cX, slots := kX.instanceTypes.map defaultValue, vm := .none } = T1 at X₁ st1
  have hcat : (Value.ref T.heap.size).category = 1 := rfl
  have hcellA : T1.heap[T.heap.size]? = some (freshCell cX kX) := by rw [← hT1]; exact State.heap_pushCell_size _ _
  have d3' : decode c.code (pc + 3) = .ok (.dup, 1) := by rw [hb]; exact d3
  have d4' : decode c.code (pc + 4) = .ok (.ldc_w is, 3) := by rw [hb]; exact d4
  have hstr' : vk_R own is text sa s' := vk_R.warm hW0 hstr
  obtain ⟨U, hsteps, hrun, hend, hW, hsame, ce, hce, hO⟩ := X₁.ctorThrowS hexec htr (own := own) (cls := cls) (names := names) (ic := ic) hown' hcls hnames h (fun x hx => nomatch hx) hfX hkX hcellA (by rw [hhp, hT]; exact Nat.le_refl _) (msg := .ref sa) rfl
    (g := { method := m, pc := pc + 7, locals := ls, stack := .ref sa :: .ref T.heap.size :: .ref T.heap.size :: rest, locked := none }) rfl hsize rfl rfl (rest := rest) rfl
    (by rw [hb]; exact d7) (by rw [hb]; exact d10) hout hRframes (by simp only [List.map_cons, List.sum_cons, hcat]; omega) hlocks
  obtain ⟨f1, f2⟩ := vx_frame hsame
  rw [hhp] at f1 f2
  have hWs : s.WarmedH U.vm := State.WarmedH.trans hW0 hW
  have hcl : s.vm.findClass cls = some ce.cls := by
    have h9 := hO.cls
    rw [hvm] at h9
    exact h9
  have hall : s.sameButNew ({ U with vm := s.vm } : State) locs mc ms := by
    subst hA
    obtain ⟨e1, e2⟩ := hsame
    rw [State.setFrames_setFrames] at e1
    have h2 : (T.setVm s.vm).sameButNew ({ U with vm := s.vm } : State) [] (0 + 1) (0 + 6) := ⟨e1, e2⟩
    have h3 := X.same.trans h2
    rw [List.append_nil] at h3
    exact h3.mono hc hs
  refine ⟨U, ?_, .threw T.heap.size, hrun, hend, Or.inr ⟨T.heap.size, rfl, cls, ce, locs, hx U hWs.alike f1 (fun q hq => f2 q hq (fun z hz => nomatch hz)), hce, hO.vm, hcl, hWs, hall, hf⟩⟩
  refine st1 _ ?_
  show Steps p.tables e below (T1.setTop { method := m, pc := pc + 3, locals := ls, stack := .ref T.heap.size :: rest, locked := none }) _
  jvm_step X₁.here [X₁.here.top, hexec, d3', Value.category]
  exact X₁.ldcStringW hexec (own := own) (text := text) (index := is) (a := sa) hown' hstr'.1 hstr'.2
    (g := { method := m, pc := pc + 4, locals := ls, stack := .ref T.heap.size :: .ref T.heap.size :: rest, locked := none }) rfl d4' _ hsteps
end Ends
section Bodies
variable {l : Launch}
theorem vx_ofW {y : MethodName} {ws ws' : List Cond} {rm : Room} {Pc : Array Value → State → Prop} {Qc : Array Value → State → Outcome → State → Prop} {XC : String → State → State → Prop} {mc ms : Nat} {free : Addr → Prop} {cc : ByteArray} {maxL : Nat} {ret : Option FieldType}
    (hy : plainName y.cls = true) (hw : ws = Cond.code y cc maxL ret :: ws')
    (body : ∀ p e s m args below meth c s₁, BodyLoose p l y (headSpec ws rm) cc maxL ret e s m args below meth c s₁ → c.maxLocals = maxL → (∀ x ∈ c.exceptionTable.toList, False) → Pc args s →
      W p l e (headSpec ws rm).room s m args below meth c s.heap [] 0 0 (vx_MQ below Qc XC args s mc ms free) (entryFrame m args maxL)) : vx_Met l y ws rm Pc Qc XC mc ms free := by
  refine MetFree.of_bodyS (code := cc) (maxLocals := maxL) (ret := ret) hy ?_ ?_
  · intro args s m h hn
    obtain ⟨meth, c, h1, h2, h3, h4, h5, h6, -, -⟩ := Cond.code_spec hn (atoms_spec (ws := ws) h _ (by rw [hw]; exact List.mem_cons_self))
    exact ⟨meth, c, h1, h2, h3, h4, h5, h6⟩
  · intro p e s m args below meth c s₁ B hml hP _
    have hh0 : s₁.heap = s.heap := by rw [B.state]; rfl
    have ht : ∀ x ∈ c.exceptionTable.toList, False := by
      obtain ⟨meth9, c9, h1, h2, -, -, -, -, h7, -⟩ := Cond.code_spec B.named (atoms_spec (ws := ws) B.pre _ (by rw [hw]; exact List.mem_cons_self))
      cases Option.some.inj (h1.symm.trans B.method)
      cases Option.some.inj (h2.symm.trans (Stand.of_body B).code)
      intro x hx
      rw [Array.isEmpty_iff.mp h7] at hx
      cases hx
    obtain ⟨t, a1, o, b1, b2, b3⟩ := body p e s m args below meth c s₁ B hml ht hP s₁ hh0 (Stand.of_body B)
    exact ⟨t, o, a1, b1, b2, b3⟩
/-- the table of a body with handlers -/
theorem vx_table {p : Program} {x y : MethodName} {S : Spec} {cc bytes : ByteArray} {maxL maxL' : Nat} {ret ret' : Option FieldType} {e : Env} {s s₁ : State} {m : MethodId} {args : Array Value} {below : List Frame} {meth : Method} {c : Code} {hh : List (Nat × Nat × Nat × Nat)}
    (B : BodyLoose p l y S cc maxL ret e s m args below meth c s₁) (h : (Cond.codeWith y bytes maxL' ret' hh).before args s = true) : c.exceptionTable.toList = tableOf hh := by
  obtain ⟨m9, meth9, c9, hn9, h1, h2, -, -, h6, -⟩ := Cond.codeWith_spec h
  cases Option.some.inj (hn9.symm.trans B.named)
  cases Option.some.inj (h1.symm.trans B.method)
  cases Option.some.inj (h2.symm.trans (Stand.of_body B).code)
  rw [← h6, table_eq]
end Bodies
end VXA
/-! ===== END ===== -/
/-! ===== BEGIN a static call of a method with an exception table ===== -/
section VXS
variable {p : Program} {l : Launch} {e : Env} {R : Room} {s : State} {m : MethodId} {args : Array Value} {below : List Frame} {meth : Method} {c : Code} {T : State} {H : Heap} {locs : List Loc} {cells slots : Nat}
abbrev vx_CSW (R : Room) (s : State) (args : Array Value) (own : String) (index : Nat) (y : MethodName) (bytes : ByteArray) (maxL : Nat) (ret : Option FieldType) (hh : List (Nat × Nat × Nat × Nat)) (ws : List Cond) (rm : Room) (mc ms n : Nat) : Prop :=
  (rm.cells = mc ∧ rm.slots = ms ∧ rm.frames + 1 ≤ R.frames ∧ 8 + (maxL + 11) + rm.locals ≤ R.locals ∧ (∀ w ∈ ws, ∀ (a' : Array Value) (U : State), s.WarmedH U.vm → w.before a' U = true) ∧ Cond.codeWith y bytes maxL ret hh ∈ ws) ∧
  (Cond.codeWith y bytes maxL ret hh).before args s = true ∧ (Cond.initialized y.cls).before args s = true ∧ (y.cls ≠ "java/lang/invoke/MethodHandle" ∧ y.cls ≠ "java/lang/invoke/VarHandle") ∧
  (∀ sig, parseMethodDescriptor y.desc = some sig → n = sig.parameters.length) ∧ (Cond.methodLink own index y).before args s = true ∧ (Cond.static y).before args s = true
theorem vx_cwSW {own : String} {index maxL mc ms : Nat} {y : MethodName} {bytes : ByteArray} {ret : Option FieldType} {hh : List (Nat × Nat × Nat × Nat)} {Ts ws ws' : List Cond} {rm : Room} (n : Nat) (ht : ∀ w ∈ Ts, w.before args s = true) (hT : GoodIn Ts (va_wsS own index y ws)) (hw : ws = Cond.codeWith y bytes maxL ret hh :: ws') (hrc : rm.cells = mc) (hrs : rm.slots = ms)
    (hd : y.cls ≠ "java/lang/invoke/MethodHandle" ∧ y.cls ≠ "java/lang/invoke/VarHandle" ∧ (parseMethodDescriptor y.desc).map (fun d => d.parameters.length) = some n) (hR : rm.frames + 1 ≤ R.frames ∧ 8 + (maxL + 11) + rm.locals ≤ R.locals) :
    vx_CSW R s args own index y bytes maxL ret hh ws rm mc ms n := by
  have ok : ∀ w ∈ va_wsS own index y ws, w.before args s = true := fun w h => ht w (hT w h).1
  have hG : GoodIn Ts ws := fun w h => hT w (by unfold va_wsS; exact List.mem_append_right _ h)
  have hc : Cond.codeWith y bytes maxL ret hh ∈ ws := by rw [hw]; exact List.mem_cons_self
  refine ⟨⟨hrc, hrs, hR.1, hR.2, pay_in ht hG, hc⟩, ht _ (hG _ hc).1, ok _ (by simp [va_wsS]), ⟨hd.1, hd.2.1⟩, fun sig h => ?_, ok _ (by simp [va_wsS]), ok _ (by simp [va_wsS])⟩
  have h2 := hd.2.2
  rw [h] at h2
  exact (Option.some.inj h2).symm
theorem vx_callSW (X : Stand p l e R s m args below meth c T locs cells slots) (hexec : p.tables.exec = Jvm.exec) {own : String} {index : Nat} {y : MethodName} {bytes : ByteArray} {maxL : Nat} {ret : Option FieldType} {hh : List (Nat × Nat × Nat × Nat)}
    (hown : s.vm.findClass own = some m.cls) (hlink : (Cond.methodLink own index y).before args s = true) (hstat : (Cond.static y).before args s = true) (hinit : (Cond.initialized y.cls).before args s = true)
    (hcode : (Cond.codeWith y bytes maxL ret hh).before args s = true) (hy : y.cls ≠ "java/lang/invoke/MethodHandle" ∧ y.cls ≠ "java/lang/invoke/VarHandle")
    {W9 : Nat} {Pre : Pt → Array Value → Prop} {Post : Pt → Array Value → Option Value → Pt → Prop} (hK : Back l R p e below s args y 3 W9 Pre Post)
    {g : JFrame} (hg : g.method = m) (hsize : g.locals.size = c.maxLocals) {argsL rest : List Value} (hlen : ∀ sig, parseMethodDescriptor y.desc = some sig → argsL.length = sig.parameters.length)
    (hstack : g.stack = argsL.reverse ++ rest) (hW : 2 * g.monitorRoom + (rest.map fun v => v.category).sum ≤ W9) (hdg : decode c.code g.pc = .ok (.invokestatic index, 3))
    (hpre : ∀ vm₁, s.WarmedH vm₁ → Pre ⟨T.setVm vm₁, locs, cells, slots⟩ argsL.toArray) :
    ∃ (v : Option Value) (vm₁ : Vm) (B : Pt), s.WarmedH vm₁ ∧ Stand p l e R s m args below meth c B.U B.locs B.cells B.slots ∧ Post ⟨T.setVm vm₁, locs, cells, slots⟩ argsL.toArray v B ∧
      ∀ target, Steps p.tables e below (B.U.setTop { g with pc := g.pc + 3, stack := v.toList ++ rest }) target → Steps p.tables e below (T.setTop g) target := by
  obtain ⟨mk, methM, cM, hnamed, hmethM, -, -, -, -, -, -, hsigM⟩ := Cond.codeWith_spec hcode
  have hstatic : methM.isStatic = true := Cond.static_spec hnamed hmethM hstat
  obtain ⟨kP, hkP, -⟩ := className_of_methodNamed hnamed
  have hinitP : kP.init = .initialized := Cond.initialized_spec (findClass_of_methodNamed hnamed) hkP hinit
  obtain ⟨vm₁, X₁, hstep₁⟩ := X.invokestatic hexec hown hlink hnamed hmethM hstatic hkP hinitP hy (g := g) hg (argsL := argsL) (rest := rest) (hlen _ hsigM) hstack hdg
  obtain ⟨v, B, X', hpost, hsteps⟩ := hK m meth c ⟨T.setVm vm₁, locs, cells, slots⟩ { g with stack := rest } (.invokestatic index) mk argsL.toArray X₁ hg hsize hdg hW (X₁.named hnamed) (hpre vm₁ X₁.warmed)
  exact ⟨v, vm₁, B, X₁.warmed, X', hpost, fun target h => hstep₁ _ fun acts => by rw [doInvoke_state]; exact hsteps.trans h⟩
theorem vx_runSW {y : MethodName} {bytes cc : ByteArray} {maxL nL mc ms n index : Nat} {ret : Option FieldType} {hh : List (Nat × Nat × Nat × Nat)} {ws : List Cond} {rm : Room} {Pc : Array Value → State → Prop} {Qc : Array Value → State → Outcome → State → Prop} {free : Addr → Prop} {Ts : List Cond} {own : String} {As rest : List Value} {g : JFrame}
    (S : CallFix p m c cc nL s args Ts own) (hM : Met l y ws rm Pc Qc mc ms free) (cw : vx_CSW R s args own index y bytes maxL ret hh ws rm mc ms n) (hp : PreS s H Pc As)
    (hg : g.method = m) (hn : As.length = n) (hsize : g.locals.size = nL) (hstack : g.stack = As.reverse ++ rest) (hW : 2 * g.monitorRoom + (rest.map fun v => v.category).sum ≤ 8) (hdg : decode cc g.pc = .ok (.invokestatic index, 3)) (hf : cells + mc ≤ R.cells ∧ slots + ms ≤ R.slots) :
    va_Run p l e R s m args below meth c H locs cells slots mc ms g rest (Qc As.toArray) (free) := by
  obtain ⟨⟨hrc, hrs, hfr, hlo, hws, hcw⟩, hcode, hini, hy, hlen, hl, hstt⟩ := cw
  have hK : Back l R p e below s args y 3 8 (PreOf R mc ms Pc) (PostOf Qc mc ms free) := va_backW (hh := hh) (bytes := bytes) (maxL := maxL) (ret := ret) hM hp.1 hrc hrs hfr hlo hws hcw (fun a' U hW => word_at hW (Or.inl (by first | rfl | simp [Cond.onTables, Cond.keeps, Cond.steady])) hini)
  obtain ⟨hx, hb, hml, ho, -⟩ := S
  intro T hT X
  obtain ⟨v, vm₁, ⟨U', l2, c2, s2⟩, hW₁, X', ⟨g', mk, t, L, e1, e2, hq, h1, hL, h2, h3⟩, st⟩ := vx_callSW X hx (hh := hh) (bytes := bytes) (maxL := maxL) (ret := ret) ho hl hstt hini hcode hy hK hg (hsize.trans hml.symm) (argsL := As) (rest := rest) (fun sig h => hn.trans (hlen sig h)) hstack hW (by rw [hb]; exact hdg)
    (fun vm₁ hW₁ => ⟨hf.1, hf.2, hp.2 (T.setVm vm₁) hT hW₁⟩)
  dsimp only [Pt.U, Pt.locs, Pt.cells, Pt.slots] at X' e1 e2 h1 h2 h3 st
  subst h1; subst h2; subst h3
  exact ⟨v, (T.setVm vm₁).calling g' mk As.toArray, t, U', L, hT, X', hL, e1, e2, hq, st⟩
/-- a thing of a world lies in the heap -/
theorem vx_lt {D : va_G} {cl : List vw_C} {ws : va_W} {H1 : Heap} (h : va_P D cl ws H1) {k : Nat} {q : Nat × va_E} (hk : ws[k]? = some q) : q.1 < H1.size := (h k q hk).lt
end VXS
/-! ===== END ===== -/
/-! ===== BEGIN methods with a table of their own: called by a name, returning or throwing ===== -/
section VXH
/-! vx_backW, vx_callVX, vx_callSX, vx_callVW, vx_runVW, vx_runVX, vx_runSX, vx_ofWH follow the same proofs as their sisters above (Free/Laws.lean, Shelf42/LK1.lean); vx_outP calls Shelf42/NT130.lean (outThrough). -/
section
variable {l : Launch} {R : Room} {p : Program} {e : Env} {below : List Frame} {s : State} {sargs : Array Value} {y : MethodName} {len W9 : Nat}
theorem vx_backW {ws : List Cond} {rm : Room} {Pc : Array Value → State → Prop} {Qc : Array Value → State → Outcome → State → Prop} {XC : String → State → State → Prop} {mc ms : Nat} {free : Addr → Prop} {bytes : ByteArray} {maxL : Nat} {ret : Option FieldType} {hh : List (Nat × Nat × Nat × Nat)}
    (hM : vx_Met l y ws rm Pc Qc XC mc ms free) (hblind : FrameBlind Pc) (hrc : rm.cells = mc) (hrs : rm.slots = ms)
    (hframes : rm.frames + 1 ≤ R.frames) (hlocals : W9 + (maxL + 11) + rm.locals ≤ R.locals)
    (hws : ∀ w ∈ ws, ∀ a' U, s.WarmedH U.vm → w.before a' U = true) (hcode : Cond.codeWith y bytes maxL ret hh ∈ ws) (hinit : ∀ a' U, s.WarmedH U.vm → (Cond.initialized y.cls).before a' U = true) :
    vx_Back l R p e below s sargs y len W9 (PreOf R mc ms Pc) (PostOf Qc mc ms free) (vx_Post XC mc ms free) := by
  intro m meth c A g ig mk a X hg hsize hdg hW hn hp
  have h1 : (headSpec ws rm).pre.before a A.U = true := atoms_intro fun w hw => hws w hw _ _ X.warmed
  have h2 : (Cond.codeWith y bytes maxL ret hh).before a A.U = true := hws _ hcode _ _ X.warmed
  have h3 : (Cond.initialized y.cls).before a A.U = true := hinit _ _ X.warmed
  have h4 : A.cells + (headSpec ws rm).room.cells ≤ R.cells := by rw [show (headSpec ws rm).room.cells = mc from hrc]; exact hp.1
  have h5 : A.slots + (headSpec ws rm).room.slots ≤ R.slots := by rw [show (headSpec ws rm).room.slots = ms from hrs]; exact hp.2.1
  have hPc : Pc a (A.U.calling g mk a) := hblind _ _ _ _ hp.2.2
  obtain ⟨U, Ls, c0, s0⟩ := A
  dsimp only [Pt.U, Pt.locs, Pt.cells, Pt.slots] at h1 h2 h3 h4 h5 X hn hPc ⊢
  obtain ⟨m9, methY, cY, hn9, hmY, hcY, -, hlY, -⟩ := Cond.codeWith_spec h2
  cases Option.some.inj (hn9.symm.trans hn)
  obtain ⟨kY, hkY, -⟩ := className_of_methodNamed hn
  have hinitY : kY.init = .initialized := Cond.initialized_spec (findClass_of_methodNamed hn) hkY h3
  have h : At U g.method c below := by rw [hg]; exact X.here
  have hlocals9 : W9 + (maxL + 11) + (headSpec ws rm).room.locals ≤ R.locals := hlocals
  have happ : (headSpec ws rm).appliesLoose y e.platform (U.calling g mk a) = true :=
    Spec.appliesLoose_calling (g := g) h hdg hn hkY hinitY
      (X.room_calling (g := g) (R' := (headSpec ws rm).room) hsize hmY hcY hframes (by rw [hlY]; omega) h4 h5) h1
  obtain ⟨mid, hmid⟩ := h.above
  have hfr : (U.setTop g).frames = (.java g :: mid) ++ below := by rw [State.frames_setTop' g h.top, hmid]; rfl
  obtain ⟨o, s₂, hsteps, -, hend, hq⟩ := Steps.callFree hM p X.admits X.cas X.clock (acts := []) hfr happ hPc trivial
  have hq' : vx_Q Qc XC mc ms free a (U.calling g mk a) o s₂ := hq
  rw [State.frames_setTop' g h.top] at hend
  obtain ⟨g₀, hg0⟩ := Option.isSome_iff_exists.mp h.top
  obtain ⟨r, hr⟩ := State.topJava?_eq_some.mp hg0
  have hr' : (({ U with heap := s₂.heap, slotsUsed := s₂.slotsUsed } : State).setVm s₂.vm).frames = .java g₀ :: r := hr
  rcases hq' with ⟨hqc, L, hfe, hL⟩ | ⟨q, rfl, E, ce, L, hx, hce, hcv, hcl, hW₂, hsm, hL⟩
  · obtain ⟨⟨v, rfl⟩, hW₂, e2, q2, q3, q4, q5, q6⟩ := id hfe
    have e3 : s₂ = ({ (U.calling g mk a).setFrames s₂.frames with heap := s₂.heap, slotsUsed := s₂.slotsUsed } : State).setVm s₂.vm := by
      have : s₂ = ({ s₂ with vm := (U.calling g mk a).vm } : State).setVm s₂.vm := rfl
      rw [e2] at this
      exact this
    obtain ⟨c₂, i₂, len₂, hc₂, hd₂, hf₂⟩ := hend
    have hW' : U.WarmedH s₂.vm := hW₂
    have hcc : c₂ = c := by
      have h1 : s₂.code? g.method = U.code? g.method := by
        rw [State.code?_eq, State.code?_eq, hW'.alike.method?]
      exact Option.some.inj (hc₂.symm.trans (h1.trans h.code))
    subst hcc
    have hlen : len₂ = len := by rw [hdg] at hd₂; cases hd₂; rfl
    subst hlen
    have hs₂ : s₂ = (({ U with heap := s₂.heap, slotsUsed := s₂.slotsUsed } : State).setVm s₂.vm).setTop { g with pc := g.pc + len₂, stack := v.toList ++ g.stack } := by
      refine e3.trans ?_
      rw [hf₂, State.calling_eq h.top, State.setFrames_setFrames, State.setTop_of_frames _ hr', hr]
      rfl
    have hsame : U.sameButNew ({ U with heap := s₂.heap, slotsUsed := s₂.slotsUsed } : State) L mc ms := by
      refine ⟨?_, q2, q3, q4, q5, q6⟩
      obtain ⟨t, ht, -⟩ := State.frames_cons hr
      show ({ U with heap := s₂.heap, slotsUsed := s₂.slotsUsed } : State) = { U.setFrames U.frames with heap := s₂.heap, slotsUsed := s₂.slotsUsed }
      rw [State.setFrames_self ht]
    subst hg
    refine Or.inl ⟨v, ⟨(({ U with heap := s₂.heap, slotsUsed := s₂.slotsUsed } : State).setVm s₂.vm), Ls ++ L, c0 + mc, s0 + ms⟩,
      ⟨X.admits, X.cas, X.clock, X.frames, X.room, X.hears, X.method, X.code, (X.here.setHeapUsed s₂.heap s₂.slotsUsed).setVm hW'.alike, X.tail, State.WarmedH.trans X.warmed hW', X.limits, X.bytes, X.same.trans (hsame.setVm s.vm)⟩,
      ⟨g, mk, s₂, L, rfl, rfl, hqc, rfl, hL, rfl, rfl⟩, ?_⟩
    show Steps p.tables e below _ ((({ U with heap := s₂.heap, slotsUsed := s₂.slotsUsed } : State).setVm s₂.vm).setTop { g with pc := g.pc + len₂, stack := v.toList ++ g.stack })
    rw [← hs₂]
    exact hsteps
  · obtain ⟨e2, q2, q3, q4, q5, q6⟩ := id hsm
    have e3 : s₂ = ({ (U.calling g mk a).setFrames s₂.frames with heap := s₂.heap, slotsUsed := s₂.slotsUsed } : State).setVm s₂.vm := by
      have : s₂ = ({ s₂ with vm := (U.calling g mk a).vm } : State).setVm s₂.vm := rfl
      rw [e2] at this
      exact this
    have hf₂ : s₂.frames = .throwing q :: .java g :: U.frames.tail := hend
    have hW' : U.WarmedH s₂.vm := hW₂
    have hs₂ : s₂ = ((({ U with heap := s₂.heap, slotsUsed := s₂.slotsUsed } : State).setVm s₂.vm).setTop g).pushFrame (.throwing q) := by
      refine e3.trans ?_
      rw [hf₂, State.calling_eq h.top, State.setFrames_setFrames, State.pushFrame, State.frames_setTop _ hr', State.setTop_of_frames _ hr', State.setFrames_setFrames, hr]
      rfl
    have hsame : U.sameButNew ({ U with heap := s₂.heap, slotsUsed := s₂.slotsUsed } : State) L mc ms := by
      refine ⟨?_, q2, q3, q4, q5, q6⟩
      obtain ⟨t, ht, -⟩ := State.frames_cons hr
      show ({ U with heap := s₂.heap, slotsUsed := s₂.slotsUsed } : State) = { U.setFrames U.frames with heap := s₂.heap, slotsUsed := s₂.slotsUsed }
      rw [State.setFrames_self ht]
    subst hg
    refine Or.inr ⟨q, ⟨(({ U with heap := s₂.heap, slotsUsed := s₂.slotsUsed } : State).setVm s₂.vm), Ls ++ L, c0 + mc, s0 + ms⟩,
      ⟨X.admits, X.cas, X.clock, X.frames, X.room, X.hears, X.method, X.code, (X.here.setHeapUsed s₂.heap s₂.slotsUsed).setVm hW'.alike, X.tail, State.WarmedH.trans X.warmed hW', X.limits, X.bytes, X.same.trans (hsame.setVm s.vm)⟩,
      ⟨g, mk, s₂, L, E, ce, rfl, rfl, hx, hce, hcv, hcl, rfl, hL, rfl, rfl⟩, ?_⟩
    show Steps p.tables e below _ (((({ U with heap := s₂.heap, slotsUsed := s₂.slotsUsed } : State).setVm s₂.vm).setTop g).pushFrame (.throwing q))
    rw [← hs₂]
    exact hsteps
end
variable {p : Program} {l : Launch} {e : Env} {R : Room} {s : State} {m : MethodId} {args : Array Value} {below : List Frame} {meth : Method} {c : Code} {T : State} {H : Heap} {locs : List Loc} {cells slots : Nat}
theorem vx_callVX (X : Stand p l e R s m args below meth c T locs cells slots) (hexec : p.tables.exec = Jvm.exec) {own C : String} {index : Nat} {y : MethodName} {bytes : ByteArray} {maxL : Nat} {ret : Option FieldType} {hh : List (Nat × Nat × Nat × Nat)}
    (hown : s.vm.findClass own = some m.cls) (hlink : (Cond.methodLink own index y).before args s = true) (hinst : (Cond.instanceMethod y).before args s = true) (hsel : (Cond.selects C y y).before args s = true)
    (hcode : (Cond.codeWith y bytes maxL ret hh).before args s = true) (hy : y.cls ≠ "java/lang/invoke/MethodHandle" ∧ y.cls ≠ "java/lang/invoke/VarHandle")
    {W9 : Nat} {Pre : Pt → Array Value → Prop} {Post : Pt → Array Value → Option Value → Pt → Prop} {PostX : Pt → Array Value → Addr → Pt → Prop} (hK : vx_Back l R p e below s args y 3 W9 Pre Post PostX)
    {b : Addr} {cellB : Cell} (hcell : T.heap[b]? = some cellB) (hobj : cellB.vm.isStatics = false) (hcls : s.vm.findClass C = some cellB.cls)
    {g : JFrame} (hg : g.method = m) (hsize : g.locals.size = c.maxLocals) {argsL rest : List Value} (hlen : ∀ sig, parseMethodDescriptor y.desc = some sig → argsL.length = sig.parameters.length)
    (hstack : g.stack = argsL.reverse ++ .ref b :: rest) (hW : 2 * g.monitorRoom + (rest.map fun v => v.category).sum ≤ W9) (hdg : decode c.code g.pc = .ok (.invokevirtual index, 3))
    (hpre : ∀ vm₁, s.WarmedH vm₁ → Pre ⟨T.setVm vm₁, locs, cells, slots⟩ (Value.ref b :: argsL).toArray) :
    (∃ (v : Option Value) (vm₁ : Vm) (B : Pt), s.WarmedH vm₁ ∧ Stand p l e R s m args below meth c B.U B.locs B.cells B.slots ∧ Post ⟨T.setVm vm₁, locs, cells, slots⟩ (Value.ref b :: argsL).toArray v B ∧
      ∀ target, Steps p.tables e below (B.U.setTop { g with pc := g.pc + 3, stack := v.toList ++ rest }) target → Steps p.tables e below (T.setTop g) target) ∨
    (∃ (q : Addr) (vm₁ : Vm) (B : Pt), s.WarmedH vm₁ ∧ Stand p l e R s m args below meth c B.U B.locs B.cells B.slots ∧ PostX ⟨T.setVm vm₁, locs, cells, slots⟩ (Value.ref b :: argsL).toArray q B ∧
      Steps p.tables e below (T.setTop g) ((B.U.setTop { g with stack := rest }).pushFrame (.throwing q))) := by
  obtain ⟨mk, methM, hnamed, hmethM, hstM, habM⟩ := Cond.instanceMethod_spec hinst
  obtain ⟨m8, methM', cM, hn8, hmethM', -, -, -, -, -, -, hsigM⟩ := Cond.codeWith_spec hcode
  cases Option.some.inj (hn8.symm.trans hnamed)
  cases hmethM.symm.trans hmethM'
  obtain ⟨c2, r2, m2, q1, q2, q3, q4, kP, hkP, hkPi⟩ := Cond.selects_spec hsel
  cases hcls.symm.trans q1
  cases (State.methodFound?_of_named hnamed hy).symm.trans q2
  cases hnamed.symm.trans q3
  have hselP : selectMethod e.platform s.vm cellB.cls mk = .method mk := by rw [Launch.admits_selectMethod X.admits]; exact q4
  obtain ⟨vm₁, X₁, hstep₁⟩ := X.invokevirtual hexec hown hlink hnamed hmethM hstM hkP hkPi hy (a := b) (cell := cellB) hcell
    (fun z h => by rw [h] at hobj; cases hobj) hselP hmethM habM hkP hkPi (g := g) hg (argsL := argsL) (rest := rest) (hlen _ hsigM) hstack hdg
  rcases hK m meth c ⟨T.setVm vm₁, locs, cells, slots⟩ { g with stack := rest } (.invokevirtual index) mk (Value.ref b :: argsL).toArray X₁ hg hsize hdg hW (X₁.named hnamed) (hpre vm₁ X₁.warmed) with ⟨v, B, X', hpost, hsteps⟩ | ⟨q, B, X', hpost, hsteps⟩
  · exact Or.inl ⟨v, vm₁, B, X₁.warmed, X', hpost, fun target h => hstep₁ _ fun acts => by rw [doInvoke_state]; exact hsteps.trans h⟩
  · exact Or.inr ⟨q, vm₁, B, X₁.warmed, X', hpost, hstep₁ _ fun acts => by rw [doInvoke_state]; exact hsteps⟩
theorem vx_callSX (X : Stand p l e R s m args below meth c T locs cells slots) (hexec : p.tables.exec = Jvm.exec) {own : String} {index : Nat} {y : MethodName} {bytes : ByteArray} {maxL : Nat} {ret : Option FieldType} {hh : List (Nat × Nat × Nat × Nat)}
    (hown : s.vm.findClass own = some m.cls) (hlink : (Cond.methodLink own index y).before args s = true) (hstat : (Cond.static y).before args s = true) (hinit : (Cond.initialized y.cls).before args s = true)
    (hcode : (Cond.codeWith y bytes maxL ret hh).before args s = true) (hy : y.cls ≠ "java/lang/invoke/MethodHandle" ∧ y.cls ≠ "java/lang/invoke/VarHandle")
    {W9 : Nat} {Pre : Pt → Array Value → Prop} {Post : Pt → Array Value → Option Value → Pt → Prop} {PostX : Pt → Array Value → Addr → Pt → Prop} (hK : vx_Back l R p e below s args y 3 W9 Pre Post PostX)
    {g : JFrame} (hg : g.method = m) (hsize : g.locals.size = c.maxLocals) {argsL rest : List Value} (hlen : ∀ sig, parseMethodDescriptor y.desc = some sig → argsL.length = sig.parameters.length)
    (hstack : g.stack = argsL.reverse ++ rest) (hW : 2 * g.monitorRoom + (rest.map fun v => v.category).sum ≤ W9) (hdg : decode c.code g.pc = .ok (.invokestatic index, 3))
    (hpre : ∀ vm₁, s.WarmedH vm₁ → Pre ⟨T.setVm vm₁, locs, cells, slots⟩ argsL.toArray) :
    (∃ (v : Option Value) (vm₁ : Vm) (B : Pt), s.WarmedH vm₁ ∧ Stand p l e R s m args below meth c B.U B.locs B.cells B.slots ∧ Post ⟨T.setVm vm₁, locs, cells, slots⟩ argsL.toArray v B ∧
      ∀ target, Steps p.tables e below (B.U.setTop { g with pc := g.pc + 3, stack := v.toList ++ rest }) target → Steps p.tables e below (T.setTop g) target) ∨
    (∃ (q : Addr) (vm₁ : Vm) (B : Pt), s.WarmedH vm₁ ∧ Stand p l e R s m args below meth c B.U B.locs B.cells B.slots ∧ PostX ⟨T.setVm vm₁, locs, cells, slots⟩ argsL.toArray q B ∧
      Steps p.tables e below (T.setTop g) ((B.U.setTop { g with stack := rest }).pushFrame (.throwing q))) := by
  obtain ⟨mk, methM, cM, hnamed, hmethM, -, -, -, -, -, -, hsigM⟩ := Cond.codeWith_spec hcode
  have hstatic : methM.isStatic = true := Cond.static_spec hnamed hmethM hstat
  obtain ⟨kP, hkP, -⟩ := className_of_methodNamed hnamed
  have hinitP : kP.init = .initialized := Cond.initialized_spec (findClass_of_methodNamed hnamed) hkP hinit
  obtain ⟨vm₁, X₁, hstep₁⟩ := X.invokestatic hexec hown hlink hnamed hmethM hstatic hkP hinitP hy (g := g) hg (argsL := argsL) (rest := rest) (hlen _ hsigM) hstack hdg
  rcases hK m meth c ⟨T.setVm vm₁, locs, cells, slots⟩ { g with stack := rest } (.invokestatic index) mk argsL.toArray X₁ hg hsize hdg hW (X₁.named hnamed) (hpre vm₁ X₁.warmed) with ⟨v, B, X', hpost, hsteps⟩ | ⟨q, B, X', hpost, hsteps⟩
  · exact Or.inl ⟨v, vm₁, B, X₁.warmed, X', hpost, fun target h => hstep₁ _ fun acts => by rw [doInvoke_state]; exact hsteps.trans h⟩
  · exact Or.inr ⟨q, vm₁, B, X₁.warmed, X', hpost, hstep₁ _ fun acts => by rw [doInvoke_state]; exact hsteps⟩
theorem vx_callVW (X : Stand p l e R s m args below meth c T locs cells slots) (hexec : p.tables.exec = Jvm.exec) {own C : String} {index : Nat} {y : MethodName} {bytes : ByteArray} {maxL : Nat} {ret : Option FieldType} {hh : List (Nat × Nat × Nat × Nat)}
    (hown : s.vm.findClass own = some m.cls) (hlink : (Cond.methodLink own index y).before args s = true) (hinst : (Cond.instanceMethod y).before args s = true) (hsel : (Cond.selects C y y).before args s = true)
    (hcode : (Cond.codeWith y bytes maxL ret hh).before args s = true) (hy : y.cls ≠ "java/lang/invoke/MethodHandle" ∧ y.cls ≠ "java/lang/invoke/VarHandle")
    {W9 : Nat} {Pre : Pt → Array Value → Prop} {Post : Pt → Array Value → Option Value → Pt → Prop} (hK : Back l R p e below s args y 3 W9 Pre Post)
    {b : Addr} {cellB : Cell} (hcell : T.heap[b]? = some cellB) (hobj : cellB.vm.isStatics = false) (hcls : s.vm.findClass C = some cellB.cls)
    {g : JFrame} (hg : g.method = m) (hsize : g.locals.size = c.maxLocals) {argsL rest : List Value} (hlen : ∀ sig, parseMethodDescriptor y.desc = some sig → argsL.length = sig.parameters.length)
    (hstack : g.stack = argsL.reverse ++ .ref b :: rest) (hW : 2 * g.monitorRoom + (rest.map fun v => v.category).sum ≤ W9) (hdg : decode c.code g.pc = .ok (.invokevirtual index, 3))
    (hpre : ∀ vm₁, s.WarmedH vm₁ → Pre ⟨T.setVm vm₁, locs, cells, slots⟩ (Value.ref b :: argsL).toArray) :
    ∃ (v : Option Value) (vm₁ : Vm) (B : Pt), s.WarmedH vm₁ ∧ Stand p l e R s m args below meth c B.U B.locs B.cells B.slots ∧ Post ⟨T.setVm vm₁, locs, cells, slots⟩ (Value.ref b :: argsL).toArray v B ∧
      ∀ target, Steps p.tables e below (B.U.setTop { g with pc := g.pc + 3, stack := v.toList ++ rest }) target → Steps p.tables e below (T.setTop g) target := by
  obtain ⟨mk, methM, hnamed, hmethM, hstM, habM⟩ := Cond.instanceMethod_spec hinst
  obtain ⟨m8, methM', cM, hn8, hmethM', -, -, -, -, -, -, hsigM⟩ := Cond.codeWith_spec hcode
  cases Option.some.inj (hn8.symm.trans hnamed)
  cases hmethM.symm.trans hmethM'
  obtain ⟨c2, r2, m2, q1, q2, q3, q4, kP, hkP, hkPi⟩ := Cond.selects_spec hsel
  cases hcls.symm.trans q1
  cases (State.methodFound?_of_named hnamed hy).symm.trans q2
  cases hnamed.symm.trans q3
  have hselP : selectMethod e.platform s.vm cellB.cls mk = .method mk := by rw [Launch.admits_selectMethod X.admits]; exact q4
  obtain ⟨vm₁, X₁, hstep₁⟩ := X.invokevirtual hexec hown hlink hnamed hmethM hstM hkP hkPi hy (a := b) (cell := cellB) hcell
    (fun z h => by rw [h] at hobj; cases hobj) hselP hmethM habM hkP hkPi (g := g) hg (argsL := argsL) (rest := rest) (hlen _ hsigM) hstack hdg
  obtain ⟨v, B, X', hpost, hsteps⟩ := hK m meth c ⟨T.setVm vm₁, locs, cells, slots⟩ { g with stack := rest } (.invokevirtual index) mk (Value.ref b :: argsL).toArray X₁ hg hsize hdg hW (X₁.named hnamed) (hpre vm₁ X₁.warmed)
  exact ⟨v, vm₁, B, X₁.warmed, X', hpost, fun target h => hstep₁ _ fun acts => by rw [doInvoke_state]; exact hsteps.trans h⟩
abbrev vx_CVW (R : Room) (s : State) (args : Array Value) (own C : String) (index : Nat) (y : MethodName) (bytes : ByteArray) (maxL : Nat) (ret : Option FieldType) (hh : List (Nat × Nat × Nat × Nat)) (ws : List Cond) (rm : Room) (mc ms n : Nat) : Prop :=
  (rm.cells = mc ∧ rm.slots = ms ∧ rm.frames + 1 ≤ R.frames ∧ 8 + (maxL + 11) + rm.locals ≤ R.locals ∧ (∀ w ∈ ws, ∀ (a' : Array Value) (U : State), s.WarmedH U.vm → w.before a' U = true) ∧ Cond.codeWith y bytes maxL ret hh ∈ ws) ∧
  (Cond.codeWith y bytes maxL ret hh).before args s = true ∧ (Cond.initialized y.cls).before args s = true ∧ (y.cls ≠ "java/lang/invoke/MethodHandle" ∧ y.cls ≠ "java/lang/invoke/VarHandle") ∧
  (∀ sig, parseMethodDescriptor y.desc = some sig → n = sig.parameters.length) ∧ (Cond.methodLink own index y).before args s = true ∧ (Cond.instanceMethod y).before args s = true ∧ (Cond.selects C y y).before args s = true
theorem vx_cwVW {own C : String} {index maxL mc ms : Nat} {y : MethodName} {bytes : ByteArray} {ret : Option FieldType} {hh : List (Nat × Nat × Nat × Nat)} {Ts ws ws' : List Cond} {rm : Room} (n : Nat) (ht : ∀ w ∈ Ts, w.before args s = true) (hT : GoodIn Ts (wsV own index C y ws)) (hw : ws = Cond.codeWith y bytes maxL ret hh :: ws') (hrc : rm.cells = mc) (hrs : rm.slots = ms)
    (hd : y.cls = C ∧ y.cls ≠ "java/lang/invoke/MethodHandle" ∧ y.cls ≠ "java/lang/invoke/VarHandle" ∧ (parseMethodDescriptor y.desc).map (fun d => d.parameters.length) = some n) (hR : rm.frames + 1 ≤ R.frames ∧ 8 + (maxL + 11) + rm.locals ≤ R.locals) :
    vx_CVW R s args own C index y bytes maxL ret hh ws rm mc ms n := by
  obtain ⟨hC, hd⟩ := hd
  subst hC
  have ok : ∀ w ∈ wsV own index y.cls y ws, w.before args s = true := fun w h => ht w (hT w h).1
  have hG : GoodIn Ts ws := fun w h => hT w (by unfold wsV; exact List.mem_append_right _ h)
  have hc : Cond.codeWith y bytes maxL ret hh ∈ ws := by rw [hw]; exact List.mem_cons_self
  refine ⟨⟨hrc, hrs, hR.1, hR.2, pay_in ht hG, hc⟩, ht _ (hG _ hc).1, ok _ (by simp [wsV]), ⟨hd.1, hd.2.1⟩, fun sig h => ?_, ok _ (by simp [wsV]), ok _ (by simp [wsV]), ok _ (by simp [wsV])⟩
  have h2 := hd.2.2
  rw [h] at h2
  exact (Option.some.inj h2).symm
theorem vx_runVW {y : MethodName} {bytes cc : ByteArray} {maxL nL mc ms n index : Nat} {ret : Option FieldType} {hh : List (Nat × Nat × Nat × Nat)} {ws : List Cond} {rm : Room} {Pc : Array Value → State → Prop} {Qc : Array Value → State → Outcome → State → Prop} {free : Addr → Prop} {Ts : List Cond} {own C : String} {b : Addr} {As rest : List Value} {g : JFrame}
    (S : CallFix p m c cc nL s args Ts own) (hM : Met l y ws rm Pc Qc mc ms free) (cw : vx_CVW R s args own C index y bytes maxL ret hh ws rm mc ms n) (hp : PreV s H C b Pc As)
    (hg : g.method = m) (hn : As.length = n) (hsize : g.locals.size = nL) (hstack : g.stack = As.reverse ++ .ref b :: rest) (hW : 2 * g.monitorRoom + (rest.map fun v => v.category).sum ≤ 8) (hdg : decode cc g.pc = .ok (.invokevirtual index, 3)) (hf : cells + mc ≤ R.cells ∧ slots + ms ≤ R.slots) :
    va_Run p l e R s m args below meth c H locs cells slots mc ms g rest (Qc (Value.ref b :: As).toArray) free := by
  obtain ⟨⟨hrc, hrs, hfr, hlo, hws, hcw⟩, hcode, hini, hy, hlen, hl, hin, hse⟩ := cw
  have hK : Back l R p e below s args y 3 8 (PreOf R mc ms Pc) (PostOf Qc mc ms free) := va_backW (hh := hh) (bytes := bytes) (maxL := maxL) (ret := ret) hM hp.1 hrc hrs hfr hlo hws hcw (fun a' U hW => word_at hW (Or.inl (by first | rfl | simp [Cond.onTables, Cond.keeps, Cond.steady])) hini)
  obtain ⟨hx, hb, hml, ho, -⟩ := S
  obtain ⟨-, ⟨cellB, hcB, hoB, hclB⟩, hPc⟩ := hp
  intro T hT X
  obtain ⟨v, vm₁, ⟨U', l2, c2, s2⟩, hW₁, X', ⟨g', mk, t, L, e1, e2, hq, h1, hL, h2, h3⟩, st⟩ := vx_callVW X hx (C := C) (hh := hh) (bytes := bytes) (maxL := maxL) (ret := ret) ho hl hin hse hcode hy hK (by rw [hT]; exact hcB) hoB hclB hg (hsize.trans hml.symm) (argsL := As) (rest := rest) (fun sig h => hn.trans (hlen sig h)) hstack hW (by rw [hb]; exact hdg)
    (fun vm₁ hW₁ => ⟨hf.1, hf.2, hPc (T.setVm vm₁) hT hW₁⟩)
  dsimp only [Pt.U, Pt.locs, Pt.cells, Pt.slots] at X' e1 e2 h1 h2 h3 st
  subst h1; subst h2; subst h3
  exact ⟨v, (T.setVm vm₁).calling g' mk (Value.ref b :: As).toArray, t, U', L, hT, X', hL, e1, e2, hq, st⟩
section
variable {y : MethodName} {bytes cc : ByteArray} {maxL nL mc ms n index : Nat} {ret : Option FieldType} {ws : List Cond} {rm : Room} {Pc : Array Value → State → Prop} {Qc : Array Value → State → Outcome → State → Prop} {XC : String → State → State → Prop} {free : Addr → Prop} {Ts : List Cond} {own C : String} {b : Addr} {As rest : List Value} {g : JFrame}
theorem vx_runVX {hh : List (Nat × Nat × Nat × Nat)} (S : CallFix p m c cc nL s args Ts own) (hM : vx_Met l y ws rm Pc Qc XC mc ms free) (cw : vx_CVW R s args own C index y bytes maxL ret hh ws rm mc ms n) (hp : PreV s H C b Pc As)
    (hg : g.method = m) (hn : As.length = n) (hsize : g.locals.size = nL) (hstack : g.stack = As.reverse ++ .ref b :: rest) (hW : 2 * g.monitorRoom + (rest.map fun v => v.category).sum ≤ 8) (hdg : decode cc g.pc = .ok (.invokevirtual index, 3)) (hf : cells + mc ≤ R.cells ∧ slots + ms ≤ R.slots) :
    vx_Run p l e R s m args below meth c H locs cells slots mc ms g rest (Qc (Value.ref b :: As).toArray) XC free := by
  obtain ⟨⟨hrc, hrs, hfr, hlo, hws, hcw⟩, hcode, hini, hy, hlen, hl, hin, hse⟩ := cw
  have hK : vx_Back l R p e below s args y 3 8 (PreOf R mc ms Pc) (PostOf Qc mc ms free) (vx_Post XC mc ms free) := vx_backW (hh := hh) (bytes := bytes) (maxL := maxL) (ret := ret) hM hp.1 hrc hrs hfr hlo hws hcw (fun a' U hW => word_at hW (Or.inl (by first | rfl | simp [Cond.onTables, Cond.keeps, Cond.steady])) hini)
  obtain ⟨hx, hb, hml, ho, -⟩ := S
  obtain ⟨-, ⟨cellB, hcB, hoB, hclB⟩, hPc⟩ := hp
  intro T hT X
  rcases vx_callVX X hx (C := C) (hh := hh) (bytes := bytes) (maxL := maxL) (ret := ret) ho hl hin hse hcode hy hK (by rw [hT]; exact hcB) hoB hclB hg (hsize.trans hml.symm) (argsL := As) (rest := rest) (fun sig h => hn.trans (hlen sig h)) hstack hW (by rw [hb]; exact hdg)
    (fun vm₁ hW₁ => ⟨hf.1, hf.2, hPc (T.setVm vm₁) hT hW₁⟩) with ⟨v, vm₁, ⟨U', l2, c2, s2⟩, hW₁, X', ⟨g', mk, t, L, e1, e2, hq, h1, hL, h2, h3⟩, st⟩ | ⟨q, vm₁, ⟨U', l2, c2, s2⟩, hW₁, X', ⟨g', mk, t, L, E, ce, e1, e2, hq, hce, hcv, hcl, h1, hL, h2, h3⟩, st⟩
  · dsimp only [Pt.U, Pt.locs, Pt.cells, Pt.slots] at X' e1 e2 h1 h2 h3 st
    subst h1; subst h2; subst h3
    exact Or.inl ⟨v, (T.setVm vm₁).calling g' mk (Value.ref b :: As).toArray, t, U', L, hT, X', hL, e1, e2, hq, st⟩
  · dsimp only [Pt.U, Pt.locs, Pt.cells, Pt.slots] at X' e1 e2 h1 h2 h3 st hcl
    subst h1; subst h2; subst h3
    exact Or.inr ⟨q, (T.setVm vm₁).calling g' mk (Value.ref b :: As).toArray, t, U', L, E, ce, hT, X', hL, e1, e2, hq, hce, hcv, vx_cls hW₁ hcl, st⟩
theorem vx_runSX {hh : List (Nat × Nat × Nat × Nat)} (S : CallFix p m c cc nL s args Ts own) (hM : vx_Met l y ws rm Pc Qc XC mc ms free) (cw : vx_CSW R s args own index y bytes maxL ret hh ws rm mc ms n) (hp : PreS s H Pc As)
    (hg : g.method = m) (hn : As.length = n) (hsize : g.locals.size = nL) (hstack : g.stack = As.reverse ++ rest) (hW : 2 * g.monitorRoom + (rest.map fun v => v.category).sum ≤ 8) (hdg : decode cc g.pc = .ok (.invokestatic index, 3)) (hf : cells + mc ≤ R.cells ∧ slots + ms ≤ R.slots) :
    vx_Run p l e R s m args below meth c H locs cells slots mc ms g rest (Qc As.toArray) XC free := by
  obtain ⟨⟨hrc, hrs, hfr, hlo, hws, hcw⟩, hcode, hini, hy, hlen, hl, hstt⟩ := cw
  have hK : vx_Back l R p e below s args y 3 8 (PreOf R mc ms Pc) (PostOf Qc mc ms free) (vx_Post XC mc ms free) := vx_backW (hh := hh) (bytes := bytes) (maxL := maxL) (ret := ret) hM hp.1 hrc hrs hfr hlo hws hcw (fun a' U hW => word_at hW (Or.inl (by first | rfl | simp [Cond.onTables, Cond.keeps, Cond.steady])) hini)
  obtain ⟨hx, hb, hml, ho, -⟩ := S
  intro T hT X
  rcases vx_callSX X hx (hh := hh) (bytes := bytes) (maxL := maxL) (ret := ret) ho hl hstt hini hcode hy hK hg (hsize.trans hml.symm) (argsL := As) (rest := rest) (fun sig h => hn.trans (hlen sig h)) hstack hW (by rw [hb]; exact hdg)
    (fun vm₁ hW₁ => ⟨hf.1, hf.2, hp.2 (T.setVm vm₁) hT hW₁⟩) with ⟨v, vm₁, ⟨U', l2, c2, s2⟩, hW₁, X', ⟨g', mk, t, L, e1, e2, hq, h1, hL, h2, h3⟩, st⟩ | ⟨q, vm₁, ⟨U', l2, c2, s2⟩, hW₁, X', ⟨g', mk, t, L, E, ce, e1, e2, hq, hce, hcv, hcl, h1, hL, h2, h3⟩, st⟩
  · dsimp only [Pt.U, Pt.locs, Pt.cells, Pt.slots] at X' e1 e2 h1 h2 h3 st
    subst h1; subst h2; subst h3
    exact Or.inl ⟨v, (T.setVm vm₁).calling g' mk As.toArray, t, U', L, hT, X', hL, e1, e2, hq, st⟩
  · dsimp only [Pt.U, Pt.locs, Pt.cells, Pt.slots] at X' e1 e2 h1 h2 h3 st hcl
    subst h1; subst h2; subst h3
    exact Or.inr ⟨q, (T.setVm vm₁).calling g' mk As.toArray, t, U', L, E, ce, hT, X', hL, e1, e2, hq, hce, hcv, vx_cls hW₁ hcl, st⟩
end
end VXH
theorem vx_ofWH {l : Launch} {y : MethodName} {ws ws' : List Cond} {rm : Room} {Pc : Array Value → State → Prop} {Qc : Array Value → State → Outcome → State → Prop} {XC : String → State → State → Prop} {mc ms : Nat} {free : Addr → Prop} {cc : ByteArray} {maxL : Nat} {ret : Option FieldType} {hh : List (Nat × Nat × Nat × Nat)}
    (hy : plainName y.cls = true) (hw : ws = Cond.codeWith y cc maxL ret hh :: ws')
    (body : ∀ p e s m args below meth c s₁, BodyLoose p l y (headSpec ws rm) cc maxL ret e s m args below meth c s₁ → c.maxLocals = maxL → Pc args s →
      W p l e (headSpec ws rm).room s m args below meth c s.heap [] 0 0 (vx_MQ below Qc XC args s mc ms free) (entryFrame m args maxL)) : vx_Met l y ws rm Pc Qc XC mc ms free := by
  refine MetFree.of_bodyS (code := cc) (maxLocals := maxL) (ret := ret) hy ?_ ?_
  · intro args s m h hn
    obtain ⟨m9, meth, c, hn9, h1, h2, h3, h4, -, h5, h6, -⟩ := Cond.codeWith_spec (atoms_spec (ws := ws) h _ (by rw [hw]; exact List.mem_cons_self))
    cases hn.symm.trans hn9
    exact ⟨meth, c, h1, h2, h3, h4, h5, h6⟩
  · intro p e s m args below meth c s₁ B hml hP _
    have hh0 : s₁.heap = s.heap := by rw [B.state]; rfl
    obtain ⟨t, a1, o, b1, b2, b3⟩ := body p e s m args below meth c s₁ B hml hP s₁ hh0 (Stand.of_body B)
    exact ⟨t, o, a1, b1, b2, b3⟩
/-! ===== END ===== -/
end
section
/-- the words of 'throw new X(text)' where X's constructor links its super constructor by the pool's entry idx (NoSuchElementException: 13), and those above by entry 7 -/
def ownAtomsN (own : String) (ic idx : Nat) (bts : ByteArray) (X Y : String) (names : List String) : List Cond :=
  Bundle.throwableAtoms ++ Bundle.throwableSAtoms ++ (Bundle.passSAtoms X Y idx bts ++ Bundle.chainSAtoms Y names) ++
  [.methodLink own ic (Bundle.initS X), .instantiable X 6, .castable X X, .selects X Bundle.tFill0 Bundle.tFill0, .selects X Bundle.tFill Bundle.tFill,
   .lays X Bundle.tN "cause" "Ljava/lang/Throwable;", .lays X Bundle.tN "stackTrace" Bundle.steD, .lays X Bundle.tN "suppressedExceptions" Bundle.listD, .lays X Bundle.tN "detailMessage" "Ljava/lang/String;",
   .isRef (.static Bundle.tN "UNASSIGNED_STACK" Bundle.steD), .isRef (.static Bundle.tN "SUPPRESSED_SENTINEL" Bundle.listD),
   .fieldLink Bundle.tN 198 Bundle.tN "backtrace" "Ljava/lang/Object;", .lays Bundle.tN Bundle.tN "backtrace" "Ljava/lang/Object;", .lays X Bundle.tN "backtrace" "Ljava/lang/Object;"]
def ns_bytes : ByteArray := ⟨#[0x2a, 0x2b, 0xb7, 0x00, 0x0d, 0xb1]⟩
/-- .. of NoSuchElementException in NeedleBoard, but the four that speak of the heap -/
def ns_at : List Cond := (ownAtomsN "NeedleBoard" 165 13 ns_bytes "java/util/NoSuchElementException" "java/lang/RuntimeException" ["java/lang/Exception"]).filter vx_no
def ns_atg : List Cond := ns_at.filter goodWord
/-! ===== BEGIN printed: names, fields, word lists, decode rows ===== -/
def RX0 : String := "NeedleBoard$Kind"
def TX0 : u_T := fun k => match k with
  | _ => ("", "", "", false)
def tyX0 : Nat → FieldType := fun k => match k with
  | _ => .int
abbrev wsX00 : List Cond := u_ws RX0 TX0 0
theorem nmX0 : ∀ a, a < 0 → ∀ b, b < 0 → a ≠ b → (TX0 a).2.1 ≠ (TX0 b).2.1 := by decide +kernel
theorem tyX0_ok : ∀ k, k < 0 → parseFieldDescriptor (TX0 k).2.2.1 = some (tyX0 k) := by decide +kernel
abbrev cX0_fineFromCoarse : ByteArray := prog_2_method_4_code
def yX0_fineFromCoarse : MethodName := ⟨RX0, "fineFromCoarse", "(J)J"⟩
abbrev cX0_trimmed : ByteArray := prog_2_method_5_code
def yX0_trimmed : MethodName := ⟨RX0, "trimmed", "(J)J"⟩
abbrev cX0_isNumber : ByteArray := prog_2_method_6_code
def yX0_isNumber : MethodName := ⟨RX0, "isNumber", "(J)Z"⟩
abbrev cX0_sizeOf : ByteArray := prog_2_method_7_code
def yX0_sizeOf : MethodName := ⟨RX0, "sizeOf", "(J)J"⟩
abbrev cX0_withSideOf : ByteArray := prog_2_method_8_code
def yX0_withSideOf : MethodName := ⟨RX0, "withSideOf", "(JJ)J"⟩
abbrev cX0_negated : ByteArray := prog_2_method_9_code
def yX0_negated : MethodName := ⟨RX0, "negated", "(J)J"⟩
abbrev cX0_unitOf : ByteArray := prog_2_method_10_code
def yX0_unitOf : MethodName := ⟨RX0, "unitOf", "(J)J"⟩
abbrev cX0_isBelow : ByteArray := prog_2_method_11_code
def yX0_isBelow : MethodName := ⟨RX0, "isBelow", "(JJ)Z"⟩
abbrev cX0_lesserOf : ByteArray := prog_2_method_12_code
def yX0_lesserOf : MethodName := ⟨RX0, "lesserOf", "(JJ)J"⟩
abbrev cX0_greaterOf : ByteArray := prog_2_method_13_code
def yX0_greaterOf : MethodName := ⟨RX0, "greaterOf", "(JJ)J"⟩
abbrev cX0_areAlike : ByteArray := prog_2_method_14_code
def yX0_areAlike : MethodName := ⟨RX0, "areAlike", "(JJ)Z"⟩
abbrev cX0_areOppositeInfinities : ByteArray := prog_2_method_15_code
def yX0_areOppositeInfinities : MethodName := ⟨RX0, "areOppositeInfinities", "(JJ)Z"⟩
abbrev cX0_sum : ByteArray := prog_2_method_16_code
def yX0_sum : MethodName := ⟨RX0, "sum", "(JJ)J"⟩
abbrev cX0_wholeOf : ByteArray := prog_2_method_17_code
def yX0_wholeOf : MethodName := ⟨RX0, "wholeOf", "(JI)J"⟩
abbrev cX0_rankOf : ByteArray := prog_2_method_18_code
def yX0_rankOf : MethodName := ⟨RX0, "rankOf", "(J)J"⟩
abbrev cX0_exponentOf : ByteArray := prog_2_method_19_code
def yX0_exponentOf : MethodName := ⟨RX0, "exponentOf", "(J)I"⟩
abbrev cX0_significandOf : ByteArray := prog_2_method_20_code
def yX0_significandOf : MethodName := ⟨RX0, "significandOf", "(J)J"⟩
abbrev cX0_sumByLarger : ByteArray := prog_2_method_21_code
def yX0_sumByLarger : MethodName := ⟨RX0, "sumByLarger", "(JJ)J"⟩
abbrev cX0_shiftedDown : ByteArray := prog_2_method_22_code
def yX0_shiftedDown : MethodName := ⟨RX0, "shiftedDown", "(JI)J"⟩
abbrev cX0_sizeFrom : ByteArray := prog_2_method_23_code
def yX0_sizeFrom : MethodName := ⟨RX0, "sizeFrom", "(JI)J"⟩
abbrev cX0_roundedOff : ByteArray := prog_2_method_24_code
def yX0_roundedOff : MethodName := ⟨RX0, "roundedOff", "(J)J"⟩
abbrev cX0_isRoundedUp : ByteArray := prog_2_method_25_code
def yX0_isRoundedUp : MethodName := ⟨RX0, "isRoundedUp", "(JJJ)Z"⟩
abbrev cX0_wholeOfPart : ByteArray := prog_2_method_26_code
def yX0_wholeOfPart : MethodName := ⟨RX0, "wholeOfPart", "(JI)J"⟩
abbrev cX0_wholeOfMixed : ByteArray := prog_2_method_27_code
def yX0_wholeOfMixed : MethodName := ⟨RX0, "wholeOfMixed", "(JII)J"⟩
abbrev cX0_growsBy : ByteArray := prog_2_method_28_code
def yX0_growsBy : MethodName := ⟨RX0, "growsBy", "(IJ)Z"⟩
def RX1 : String := "NeedleBoard$Needle"
def TX1 : u_T := fun k => match k with
  | 0 => ("NeedleBoard$Needle", "kind", "LNeedleBoard$Kind;", true)
  | 1 => ("NeedleBoard$Needle", "low", "J", true)
  | 2 => ("NeedleBoard$Needle", "high", "J", true)
  | 3 => ("NeedleBoard$Needle", "value", "J", false)
  | 4 => ("NeedleBoard$Needle", "step", "J", false)
  | 5 => ("NeedleBoard$Needle", "highest", "J", false)
  | 6 => ("NeedleBoard$Needle", "lowest", "J", false)
  | _ => ("NeedleBoard$Needle", "greatestSize", "J", false)
def tyX1 : Nat → FieldType := fun k => match k with
  | 0 => .object "NeedleBoard$Kind"
  | 1 => .long
  | 2 => .long
  | 3 => .long
  | 4 => .long
  | 5 => .long
  | 6 => .long
  | _ => .long
abbrev wsX10 : List Cond := u_ws RX1 TX1 8
theorem nmX1 : ∀ a, a < 8 → ∀ b, b < 8 → a ≠ b → (TX1 a).2.1 ≠ (TX1 b).2.1 := by decide +kernel
theorem tyX1_ok : ∀ k, k < 8 → parseFieldDescriptor (TX1 k).2.2.1 = some (tyX1 k) := by decide +kernel
abbrev cX1_init : ByteArray := prog_3_method_1_code
def yX1_init : MethodName := ⟨RX1, "<init>", "(LNeedleBoard$Kind;JJ)V"⟩
abbrev cX1_startAgain : ByteArray := prog_3_method_2_code
def yX1_startAgain : MethodName := ⟨RX1, "startAgain", "()V"⟩
abbrev cX1_moveTo : ByteArray := prog_3_method_3_code
def yX1_moveTo : MethodName := ⟨RX1, "moveTo", "(J)V"⟩
abbrev cX1_stepTowards : ByteArray := prog_3_method_4_code
def yX1_stepTowards : MethodName := ⟨RX1, "stepTowards", "(J)J"⟩
abbrev cX1_fineValue : ByteArray := prog_3_method_5_code
def yX1_fineValue : MethodName := ⟨RX1, "fineValue", "()J"⟩
abbrev cX1_isCounted : ByteArray := prog_3_method_6_code
def yX1_isCounted : MethodName := ⟨RX1, "isCounted", "(I)Z"⟩
abbrev cX1_withinLimits : ByteArray := prog_3_method_7_code
def yX1_withinLimits : MethodName := ⟨RX1, "withinLimits", "(J)J"⟩
def RX2 : String := "NeedleBoard"
def TX2 : u_T := fun k => match k with
  | 0 => ("NeedleBoard", "needles", "[LNeedleBoard$Needle;", true)
  | 1 => ("NeedleBoard", "made", "I", false)
  | 2 => ("NeedleBoard", "moves", "I", false)
  | 3 => ("NeedleBoard", "wideTally", "J", false)
  | _ => ("NeedleBoard", "narrowTally", "I", false)
def tyX2 : Nat → FieldType := fun k => match k with
  | 0 => .array (.object "NeedleBoard$Needle")
  | 1 => .int
  | 2 => .int
  | 3 => .long
  | _ => .int
abbrev wsX20 : List Cond := u_ws RX2 TX2 5
theorem nmX2 : ∀ a, a < 5 → ∀ b, b < 5 → a ≠ b → (TX2 a).2.1 ≠ (TX2 b).2.1 := by decide +kernel
theorem tyX2_ok : ∀ k, k < 5 → parseFieldDescriptor (TX2 k).2.2.1 = some (tyX2 k) := by decide +kernel
abbrev cX2_init : ByteArray := prog_1_method_1_code
def yX2_init : MethodName := ⟨RX2, "<init>", "()V"⟩
abbrev cX2_needle : ByteArray := prog_1_method_2_code
def yX2_needle : MethodName := ⟨RX2, "needle", "(ZJJ)I"⟩
abbrev cX2_put : ByteArray := prog_1_method_3_code
def yX2_put : MethodName := ⟨RX2, "put", "(IJ)J"⟩
abbrev cX2_turn : ByteArray := prog_1_method_4_code
def yX2_turn : MethodName := ⟨RX2, "turn", "(IJ)J"⟩
abbrev cX2_damp : ByteArray := prog_1_method_5_code
def yX2_damp : MethodName := ⟨RX2, "damp", "(IJ)J"⟩
abbrev cX2_pull : ByteArray := prog_1_method_6_code
def yX2_pull : MethodName := ⟨RX2, "pull", "(IJ)Z"⟩
abbrev cX2_rest : ByteArray := prog_1_method_7_code
def yX2_rest : MethodName := ⟨RX2, "rest", "(II)J"⟩
abbrev cX2_face : ByteArray := prog_1_method_8_code
def yX2_face : MethodName := ⟨RX2, "face", "(II)J"⟩
abbrev cX2_read : ByteArray := prog_1_method_9_code
def yX2_read : MethodName := ⟨RX2, "read", "(II)J"⟩
abbrev cX2_between : ByteArray := prog_1_method_10_code
def yX2_between : MethodName := ⟨RX2, "between", "(III)J"⟩
abbrev cX2_order : ByteArray := prog_1_method_11_code
def yX2_order : MethodName := ⟨RX2, "order", "(II)I"⟩
abbrev cX2_back : ByteArray := prog_1_method_12_code
def yX2_back : MethodName := ⟨RX2, "back", "(I)V"⟩
abbrev cX2_tally : ByteArray := prog_1_method_13_code
def yX2_tally : MethodName := ⟨RX2, "tally", "(ZIJ)J"⟩
abbrev cX2_count : ByteArray := prog_1_method_14_code
def yX2_count : MethodName := ⟨RX2, "count", "(I)I"⟩
abbrev cX2_needleAt : ByteArray := prog_1_method_15_code
def yX2_needleAt : MethodName := ⟨RX2, "needleAt", "(I)LNeedleBoard$Needle;"⟩
abbrev cX2_numberFrom : ByteArray := prog_1_method_16_code
def yX2_numberFrom : MethodName := ⟨RX2, "numberFrom", "(LNeedleBoard$Kind;J)J"⟩
abbrev cX2_tallied : ByteArray := prog_1_method_17_code
def yX2_tallied : MethodName := ⟨RX2, "tallied", "(IJJ)J"⟩
abbrev cX2_countNeedles : ByteArray := prog_1_method_18_code
def yX2_countNeedles : MethodName := ⟨RX2, "countNeedles", "(I)I"⟩
def RX3 : String := "NeedleBoardModel"
def TX3 : u_T := fun k => match k with
  | 0 => ("NeedleBoardModel", "isFine", "[Z", true)
  | 1 => ("NeedleBoardModel", "cell", "[J", true)
  | 2 => ("NeedleBoardModel", "needles", "I", false)
  | 3 => ("NeedleBoardModel", "calls", "I", false)
  | 4 => ("NeedleBoardModel", "narrow", "I", false)
  | 5 => ("NeedleBoardModel", "thrown", "I", false)
  | _ => ("NeedleBoardModel", "wide", "J", false)
def tyX3 : Nat → FieldType := fun k => match k with
  | 0 => .array .boolean
  | 1 => .array .long
  | 2 => .int
  | 3 => .int
  | 4 => .int
  | 5 => .int
  | _ => .long
abbrev wsX30 : List Cond := u_ws RX3 TX3 7
theorem nmX3 : ∀ a, a < 7 → ∀ b, b < 7 → a ≠ b → (TX3 a).2.1 ≠ (TX3 b).2.1 := by decide +kernel
theorem tyX3_ok : ∀ k, k < 7 → parseFieldDescriptor (TX3 k).2.2.1 = some (tyX3 k) := by decide +kernel
abbrev cX3_init : ByteArray := prog_5_method_1_code
def yX3_init : MethodName := ⟨RX3, "<init>", "()V"⟩
abbrev cX3_thrown : ByteArray := prog_5_method_2_code
def yX3_thrown : MethodName := ⟨RX3, "thrown", "()I"⟩
abbrev cX3_own : ByteArray := prog_5_method_3_code
def yX3_own : MethodName := ⟨RX3, "own", "(ZJ)J"⟩
abbrev cX3_sizeOf : ByteArray := prog_5_method_4_code
def yX3_sizeOf : MethodName := ⟨RX3, "sizeOf", "(ZJ)J"⟩
abbrev cX3_isNumber : ByteArray := prog_5_method_5_code
def yX3_isNumber : MethodName := ⟨RX3, "isNumber", "(ZJ)Z"⟩
abbrev cX3_isEndless : ByteArray := prog_5_method_6_code
def yX3_isEndless : MethodName := ⟨RX3, "isEndless", "(ZJ)Z"⟩
abbrev cX3_isNought : ByteArray := prog_5_method_7_code
def yX3_isNought : MethodName := ⟨RX3, "isNought", "(ZJ)Z"⟩
abbrev cX3_rank : ByteArray := prog_5_method_8_code
def yX3_rank : MethodName := ⟨RX3, "rank", "(ZJ)J"⟩
abbrev cX3_sided : ByteArray := prog_5_method_9_code
def yX3_sided : MethodName := ⟨RX3, "sided", "(ZJZ)J"⟩
abbrev cX3_wideBits : ByteArray := prog_5_method_10_code
def yX3_wideBits : MethodName := ⟨RX3, "wideBits", "(ZJ)J"⟩
abbrev cX3_sum : ByteArray := prog_5_method_11_code
def yX3_sum : MethodName := ⟨RX3, "sum", "(ZJJ)J"⟩
abbrev cX3_turned : ByteArray := prog_5_method_12_code
def yX3_turned : MethodName := ⟨RX3, "turned", "(ZJ)J"⟩
abbrev cX3_alike : ByteArray := prog_5_method_13_code
def yX3_alike : MethodName := ⟨RX3, "alike", "(ZJJ)Z"⟩
abbrev cX3_isThere : ByteArray := prog_5_method_14_code
def yX3_isThere : MethodName := ⟨RX3, "isThere", "(I)Z"⟩
abbrev cX3_may : ByteArray := prog_5_method_15_code
def yX3_may : MethodName := ⟨RX3, "may", "(IJ)Z"⟩
abbrev cX3_get : ByteArray := prog_5_method_16_code
def yX3_get : MethodName := ⟨RX3, "get", "(II)J"⟩
abbrev cX3_set : ByteArray := prog_5_method_17_code
def yX3_set : MethodName := ⟨RX3, "set", "(IIJ)V"⟩
abbrev cX3_within : ByteArray := prog_5_method_18_code
def yX3_within : MethodName := ⟨RX3, "within", "(IJ)J"⟩
abbrev cX3_fresh : ByteArray := prog_5_method_19_code
def yX3_fresh : MethodName := ⟨RX3, "fresh", "(I)V"⟩
abbrev cX3_becomes : ByteArray := prog_5_method_20_code
def yX3_becomes : MethodName := ⟨RX3, "becomes", "(IJ)J"⟩
abbrev cX3_needle : ByteArray := prog_5_method_21_code
def yX3_needle : MethodName := ⟨RX3, "needle", "(ZJJ)I"⟩
abbrev cX3_put : ByteArray := prog_5_method_22_code
def yX3_put : MethodName := ⟨RX3, "put", "(IJ)J"⟩
abbrev cX3_turn : ByteArray := prog_5_method_23_code
def yX3_turn : MethodName := ⟨RX3, "turn", "(IJ)J"⟩
abbrev cX3_damp : ByteArray := prog_5_method_24_code
def yX3_damp : MethodName := ⟨RX3, "damp", "(IJ)J"⟩
abbrev cX3_pull : ByteArray := prog_5_method_25_code
def yX3_pull : MethodName := ⟨RX3, "pull", "(IJ)Z"⟩
abbrev cX3_whole : ByteArray := prog_5_method_26_code
def yX3_whole : MethodName := ⟨RX3, "whole", "(DZI)D"⟩
abbrev cX3_rest : ByteArray := prog_5_method_27_code
def yX3_rest : MethodName := ⟨RX3, "rest", "(II)J"⟩
abbrev cX3_face : ByteArray := prog_5_method_28_code
def yX3_face : MethodName := ⟨RX3, "face", "(II)J"⟩
abbrev cX3_read : ByteArray := prog_5_method_29_code
def yX3_read : MethodName := ⟨RX3, "read", "(II)J"⟩
abbrev cX3_between : ByteArray := prog_5_method_30_code
def yX3_between : MethodName := ⟨RX3, "between", "(III)J"⟩
abbrev cX3_order : ByteArray := prog_5_method_31_code
def yX3_order : MethodName := ⟨RX3, "order", "(II)I"⟩
abbrev cX3_back : ByteArray := prog_5_method_32_code
def yX3_back : MethodName := ⟨RX3, "back", "(I)V"⟩
abbrev cX3_grown : ByteArray := prog_5_method_33_code
def yX3_grown : MethodName := ⟨RX3, "grown", "(IJJ)J"⟩
abbrev cX3_tally : ByteArray := prog_5_method_34_code
def yX3_tally : MethodName := ⟨RX3, "tally", "(ZIJ)J"⟩
abbrev cX3_count : ByteArray := prog_5_method_35_code
def yX3_count : MethodName := ⟨RX3, "count", "(I)I"⟩
def RJxe99ae : String := "java/lang/Double"
def TJxe99ae : u_T := fun k => match k with
  | _ => ("", "", "", false)
def tyJxe99ae : Nat → FieldType := fun k => match k with
  | _ => .int
abbrev wsJxe99ae0 : List Cond := u_ws RJxe99ae TJxe99ae 0
theorem nmJxe99ae : ∀ a, a < 0 → ∀ b, b < 0 → a ≠ b → (TJxe99ae a).2.1 ≠ (TJxe99ae b).2.1 := by decide +kernel
theorem tyJxe99ae_ok : ∀ k, k < 0 → parseFieldDescriptor (TJxe99ae k).2.2.1 = some (tyJxe99ae k) := by decide +kernel
abbrev cJxe99ae_isNaN_b9ae7 : ByteArray := prog_6_method_6_code
def yJxe99ae_isNaN_b9ae7 : MethodName := ⟨RJxe99ae, "isNaN", "(D)Z"⟩
abbrev cJxe99ae_doubleToLongBits_ccdee : ByteArray := prog_6_method_23_code
def yJxe99ae_doubleToLongBits_ccdee : MethodName := ⟨RJxe99ae, "doubleToLongBits", "(D)J"⟩
def RJx29ce0 : String := "java/lang/Enum"
def TJx29ce0 : u_T := fun k => match k with
  | _ => ("", "", "", false)
def tyJx29ce0 : Nat → FieldType := fun k => match k with
  | _ => .int
abbrev wsJx29ce00 : List Cond := u_ws RJx29ce0 TJx29ce0 0
theorem nmJx29ce0 : ∀ a, a < 0 → ∀ b, b < 0 → a ≠ b → (TJx29ce0 a).2.1 ≠ (TJx29ce0 b).2.1 := by decide +kernel
theorem tyJx29ce0_ok : ∀ k, k < 0 → parseFieldDescriptor (TJx29ce0 k).2.2.1 = some (tyJx29ce0 k) := by decide +kernel
def RJxf58ca : String := "java/lang/Float"
def TJxf58ca : u_T := fun k => match k with
  | _ => ("", "", "", false)
def tyJxf58ca : Nat → FieldType := fun k => match k with
  | _ => .int
abbrev wsJxf58ca0 : List Cond := u_ws RJxf58ca TJxf58ca 0
theorem nmJxf58ca : ∀ a, a < 0 → ∀ b, b < 0 → a ≠ b → (TJxf58ca a).2.1 ≠ (TJxf58ca b).2.1 := by decide +kernel
theorem tyJxf58ca_ok : ∀ k, k < 0 → parseFieldDescriptor (TJxf58ca k).2.2.1 = some (tyJxf58ca k) := by decide +kernel
abbrev cJxf58ca_isNaN_12338 : ByteArray := prog_9_method_6_code
def yJxf58ca_isNaN_12338 : MethodName := ⟨RJxf58ca, "isNaN", "(F)Z"⟩
abbrev cJxf58ca_floatToIntBits_5c35a : ByteArray := prog_9_method_24_code
def yJxf58ca_floatToIntBits_5c35a : MethodName := ⟨RJxf58ca, "floatToIntBits", "(F)I"⟩
def RJ9 : String := "java/lang/Math"
def TJ9 : u_T := fun k => match k with
  | _ => ("", "", "", false)
def tyJ9 : Nat → FieldType := fun k => match k with
  | _ => .int
abbrev wsJ90 : List Cond := u_ws RJ9 TJ9 0
theorem nmJ9 : ∀ a, a < 0 → ∀ b, b < 0 → a ≠ b → (TJ9 a).2.1 ≠ (TJ9 b).2.1 := by decide +kernel
theorem tyJ9_ok : ∀ k, k < 0 → parseFieldDescriptor (TJ9 k).2.2.1 = some (tyJ9 k) := by decide +kernel
abbrev cJ9_abs_067f4 : ByteArray := prog_12_method_61_code
def yJ9_abs_067f4 : MethodName := ⟨RJ9, "abs", "(J)J"⟩
abbrev cJ9_max_7cf53 : ByteArray := prog_12_method_65_code
def yJ9_max_7cf53 : MethodName := ⟨RJ9, "max", "(II)I"⟩
abbrev cJ9_max_f86c9 : ByteArray := prog_12_method_66_code
def yJ9_max_f86c9 : MethodName := ⟨RJ9, "max", "(JJ)J"⟩
abbrev cJ9_min_f86c9 : ByteArray := prog_12_method_70_code
def yJ9_min_f86c9 : MethodName := ⟨RJ9, "min", "(JJ)J"⟩
def RJ0 : String := "java/lang/String"
def TJ0 : u_T := fun k => match k with
  | _ => ("", "", "", false)
def tyJ0 : Nat → FieldType := fun k => match k with
  | _ => .int
abbrev wsJ00 : List Cond := u_ws RJ0 TJ0 0
theorem nmJ0 : ∀ a, a < 0 → ∀ b, b < 0 → a ≠ b → (TJ0 a).2.1 ≠ (TJ0 b).2.1 := by decide +kernel
theorem tyJ0_ok : ∀ k, k < 0 → parseFieldDescriptor (TJ0 k).2.2.1 = some (tyJ0 k) := by decide +kernel
def RL : String := "NeedleBoardLaw"
abbrev cL_needle : ByteArray := method_3_code
def yL_needle : MethodName := ⟨RL, "needle", "(LNeedleBoard;ZJJ[J)I"⟩
abbrev cL_put : ByteArray := method_4_code
def yL_put : MethodName := ⟨RL, "put", "(LNeedleBoard;IJ[J)I"⟩
abbrev cL_turn : ByteArray := method_5_code
def yL_turn : MethodName := ⟨RL, "turn", "(LNeedleBoard;IJ[J)I"⟩
abbrev cL_damp : ByteArray := method_6_code
def yL_damp : MethodName := ⟨RL, "damp", "(LNeedleBoard;IJ[J)I"⟩
abbrev cL_pull : ByteArray := method_7_code
def yL_pull : MethodName := ⟨RL, "pull", "(LNeedleBoard;IJ[J)I"⟩
abbrev cL_rest : ByteArray := method_8_code
def yL_rest : MethodName := ⟨RL, "rest", "(LNeedleBoard;II[J)I"⟩
abbrev cL_face : ByteArray := method_9_code
def yL_face : MethodName := ⟨RL, "face", "(LNeedleBoard;II[J)I"⟩
abbrev cL_read : ByteArray := method_10_code
def yL_read : MethodName := ⟨RL, "read", "(LNeedleBoard;II[J)I"⟩
abbrev cL_between : ByteArray := method_11_code
def yL_between : MethodName := ⟨RL, "between", "(LNeedleBoard;III[J)I"⟩
abbrev cL_order : ByteArray := method_12_code
def yL_order : MethodName := ⟨RL, "order", "(LNeedleBoard;II[J)I"⟩
abbrev cL_back : ByteArray := method_13_code
def yL_back : MethodName := ⟨RL, "back", "(LNeedleBoard;I)I"⟩
abbrev cL_tally : ByteArray := method_14_code
def yL_tally : MethodName := ⟨RL, "tally", "(LNeedleBoard;ZIJ[J)I"⟩
abbrev cL_law : ByteArray := code
def yL_law : MethodName := ⟨RL, "law", "([I)Z"⟩
def wsX0_sizeOf : List Cond := .code yX0_sizeOf cX0_sizeOf 3 (some .long) :: ([.fieldLink RX0 36 "NeedleBoard$Kind" "sideBits" "J", .constantLong RX0 70 (-1)])
def wsX0_exponentOf : List Cond := .code yX0_exponentOf cX0_exponentOf 3 (some .int) :: ([.fieldLink RX0 29 "NeedleBoard$Kind" "fractionBits" "I", .methodLink RX0 92 Lib.Math.max.name, .static Lib.Math.max.name, .initialized "java/lang/Math", .code Lib.Math.max.name Lib.Math.max.code 2 (some .int)])
def wsX0_significandOf : List Cond := .code yX0_significandOf cX0_significandOf 5 (some .long) :: ([.fieldLink RX0 40 "NeedleBoard$Kind" "hiddenBit" "J"])
def wsX0_shiftedDown : List Cond := .code yX0_shiftedDown cX0_shiftedDown 5 (some .long) :: ([])
def wsX0_isRoundedUp : List Cond := .code yX0_isRoundedUp cX0_isRoundedUp 6 (some .boolean) :: ([])
def wsX0_roundedOff : List Cond := .code yX0_roundedOff cX0_roundedOff 4 (some .long) :: ([.constantLong RX0 104 (7), .constantLong RX0 106 (4), .methodLink RX0 108 yX0_isRoundedUp, .static yX0_isRoundedUp, .initialized RX0, .code yX0_isRoundedUp cX0_isRoundedUp 6 (some .boolean)])
def wsX0_sizeFrom : List Cond := .code yX0_sizeFrom cX0_sizeFrom 10 (some .long) :: ([.fieldLink RX0 40 "NeedleBoard$Kind" "hiddenBit" "J", .fieldLink RX0 33 "NeedleBoard$Kind" "bias" "I", .fieldLink RX0 48 "NeedleBoard$Kind" "infinity" "J", .fieldLink RX0 29 "NeedleBoard$Kind" "fractionBits" "I", .methodLink RX0 98 yX0_shiftedDown, .static yX0_shiftedDown, .initialized RX0, .code yX0_shiftedDown cX0_shiftedDown 5 (some .long), .methodLink RX0 101 yX0_roundedOff, .static yX0_roundedOff, .code yX0_roundedOff cX0_roundedOff 4 (some .long), .constantLong RX0 104 (7), .constantLong RX0 106 (4), .methodLink RX0 108 yX0_isRoundedUp, .static yX0_isRoundedUp, .code yX0_isRoundedUp cX0_isRoundedUp 6 (some .boolean)])
def wsX0_withSideOf : List Cond := .code yX0_withSideOf cX0_withSideOf 5 (some .long) :: ([.fieldLink RX0 36 "NeedleBoard$Kind" "sideBits" "J", .methodLink RX0 51 yX0_sizeOf, .instanceMethod yX0_sizeOf, .selects RX0 yX0_sizeOf yX0_sizeOf, .initialized RX0, .code yX0_sizeOf cX0_sizeOf 3 (some .long), .constantLong RX0 70 (-1)])
def wsX0_fineFromCoarse_r1 : List Cond := [Cond.fieldLink RX0 7 "NeedleBoard$Kind" "COARSE" "LNeedleBoard$Kind;", Cond.fieldLink RX0 48 "NeedleBoard$Kind" "infinity" "J", Cond.fieldLink RX0 3 "NeedleBoard$Kind" "FINE" "LNeedleBoard$Kind;", Cond.fieldLink RX0 29 "NeedleBoard$Kind" "fractionBits" "I", Cond.fieldLink RX0 33 "NeedleBoard$Kind" "bias" "I", Cond.methodLink RX0 51 yX0_sizeOf, Cond.instanceMethod yX0_sizeOf, Cond.selects RX0 yX0_sizeOf yX0_sizeOf, Cond.initialized RX0, Cond.code yX0_sizeOf cX0_sizeOf 3 (some .long), Cond.fieldLink RX0 36 "NeedleBoard$Kind" "sideBits" "J", Cond.constantLong RX0 70 (-1), Cond.methodLink RX0 55 yX0_exponentOf, Cond.instanceMethod yX0_exponentOf, Cond.selects RX0 yX0_exponentOf yX0_exponentOf, Cond.code yX0_exponentOf cX0_exponentOf 3 (some .int), Cond.methodLink RX0 92 Lib.Math.max.name, Cond.static Lib.Math.max.name, Cond.initialized "java/lang/Math", Cond.code Lib.Math.max.name Lib.Math.max.code 2 (some .int), Cond.methodLink RX0 59 yX0_significandOf, Cond.instanceMethod yX0_significandOf, Cond.selects RX0 yX0_significandOf yX0_significandOf, Cond.code yX0_significandOf cX0_significandOf 5 (some .long)]
def wsX0_fineFromCoarse_r2 : List Cond := [Cond.fieldLink RX0 40 "NeedleBoard$Kind" "hiddenBit" "J", Cond.methodLink RX0 62 yX0_sizeFrom, Cond.instanceMethod yX0_sizeFrom, Cond.selects RX0 yX0_sizeFrom yX0_sizeFrom, Cond.code yX0_sizeFrom cX0_sizeFrom 10 (some .long), Cond.methodLink RX0 98 yX0_shiftedDown, Cond.static yX0_shiftedDown, Cond.code yX0_shiftedDown cX0_shiftedDown 5 (some .long), Cond.methodLink RX0 101 yX0_roundedOff, Cond.static yX0_roundedOff, Cond.code yX0_roundedOff cX0_roundedOff 4 (some .long), Cond.constantLong RX0 104 (7), Cond.constantLong RX0 106 (4), Cond.methodLink RX0 108 yX0_isRoundedUp, Cond.static yX0_isRoundedUp, Cond.code yX0_isRoundedUp cX0_isRoundedUp 6 (some .boolean), Cond.methodLink RX0 66 yX0_withSideOf, Cond.instanceMethod yX0_withSideOf, Cond.selects RX0 yX0_withSideOf yX0_withSideOf, Cond.code yX0_withSideOf cX0_withSideOf 5 (some .long)]
def wsX0_fineFromCoarse : List Cond := .code yX0_fineFromCoarse cX0_fineFromCoarse 8 (some .long) :: ((wsX0_fineFromCoarse_r1 ++ wsX0_fineFromCoarse_r2))
def wsX0_trimmed : List Cond := .code yX0_trimmed cX0_trimmed 3 (some .long) :: ([.fieldLink RX0 7 "NeedleBoard$Kind" "COARSE" "LNeedleBoard$Kind;"])
def wsX0_isNumber : List Cond := .code yX0_isNumber cX0_isNumber 3 (some .boolean) :: ([.fieldLink RX0 48 "NeedleBoard$Kind" "infinity" "J", .methodLink RX0 51 yX0_sizeOf, .instanceMethod yX0_sizeOf, .selects RX0 yX0_sizeOf yX0_sizeOf, .initialized RX0, .code yX0_sizeOf cX0_sizeOf 3 (some .long), .fieldLink RX0 36 "NeedleBoard$Kind" "sideBits" "J", .constantLong RX0 70 (-1)])
def wsX0_negated : List Cond := .code yX0_negated cX0_negated 3 (some .long) :: ([.fieldLink RX0 36 "NeedleBoard$Kind" "sideBits" "J", .methodLink RX0 51 yX0_sizeOf, .instanceMethod yX0_sizeOf, .selects RX0 yX0_sizeOf yX0_sizeOf, .initialized RX0, .code yX0_sizeOf cX0_sizeOf 3 (some .long), .constantLong RX0 70 (-1)])
def wsX0_unitOf : List Cond := .code yX0_unitOf cX0_unitOf 3 (some .long) :: ([.fieldLink RX0 43 "NeedleBoard$Kind" "one" "J", .methodLink RX0 51 yX0_sizeOf, .instanceMethod yX0_sizeOf, .selects RX0 yX0_sizeOf yX0_sizeOf, .initialized RX0, .code yX0_sizeOf cX0_sizeOf 3 (some .long), .fieldLink RX0 36 "NeedleBoard$Kind" "sideBits" "J", .constantLong RX0 70 (-1), .methodLink RX0 66 yX0_withSideOf, .instanceMethod yX0_withSideOf, .selects RX0 yX0_withSideOf yX0_withSideOf, .code yX0_withSideOf cX0_withSideOf 5 (some .long)])
def wsX0_rankOf : List Cond := .code yX0_rankOf cX0_rankOf 3 (some .long) :: ([.fieldLink RX0 36 "NeedleBoard$Kind" "sideBits" "J", .constantLong RX0 70 (-1)])
def wsX0_isBelow : List Cond := .code yX0_isBelow cX0_isBelow 5 (some .boolean) :: ([.methodLink RX0 72 yX0_rankOf, .instanceMethod yX0_rankOf, .selects RX0 yX0_rankOf yX0_rankOf, .initialized RX0, .code yX0_rankOf cX0_rankOf 3 (some .long), .fieldLink RX0 36 "NeedleBoard$Kind" "sideBits" "J", .constantLong RX0 70 (-1)])
def wsX0_lesserOf : List Cond := .code yX0_lesserOf cX0_lesserOf 5 (some .long) :: ([.methodLink RX0 75 yX0_isBelow, .instanceMethod yX0_isBelow, .selects RX0 yX0_isBelow yX0_isBelow, .initialized RX0, .code yX0_isBelow cX0_isBelow 5 (some .boolean), .methodLink RX0 72 yX0_rankOf, .instanceMethod yX0_rankOf, .selects RX0 yX0_rankOf yX0_rankOf, .code yX0_rankOf cX0_rankOf 3 (some .long), .fieldLink RX0 36 "NeedleBoard$Kind" "sideBits" "J", .constantLong RX0 70 (-1)])
def wsX0_greaterOf : List Cond := .code yX0_greaterOf cX0_greaterOf 5 (some .long) :: ([.methodLink RX0 75 yX0_isBelow, .instanceMethod yX0_isBelow, .selects RX0 yX0_isBelow yX0_isBelow, .initialized RX0, .code yX0_isBelow cX0_isBelow 5 (some .boolean), .methodLink RX0 72 yX0_rankOf, .instanceMethod yX0_rankOf, .selects RX0 yX0_rankOf yX0_rankOf, .code yX0_rankOf cX0_rankOf 3 (some .long), .fieldLink RX0 36 "NeedleBoard$Kind" "sideBits" "J", .constantLong RX0 70 (-1)])
def wsX0_areAlike : List Cond := .code yX0_areAlike cX0_areAlike 5 (some .boolean) :: ([.methodLink RX0 51 yX0_sizeOf, .instanceMethod yX0_sizeOf, .selects RX0 yX0_sizeOf yX0_sizeOf, .initialized RX0, .code yX0_sizeOf cX0_sizeOf 3 (some .long), .fieldLink RX0 36 "NeedleBoard$Kind" "sideBits" "J", .constantLong RX0 70 (-1)])
def wsX0_areOppositeInfinities : List Cond := .code yX0_areOppositeInfinities cX0_areOppositeInfinities 5 (some .boolean) :: ([.fieldLink RX0 48 "NeedleBoard$Kind" "infinity" "J", .methodLink RX0 51 yX0_sizeOf, .instanceMethod yX0_sizeOf, .selects RX0 yX0_sizeOf yX0_sizeOf, .initialized RX0, .code yX0_sizeOf cX0_sizeOf 3 (some .long), .fieldLink RX0 36 "NeedleBoard$Kind" "sideBits" "J", .constantLong RX0 70 (-1), .methodLink RX0 79 yX0_negated, .instanceMethod yX0_negated, .selects RX0 yX0_negated yX0_negated, .code yX0_negated cX0_negated 3 (some .long)])
def wsX0_sumByLarger_r1 : List Cond := [Cond.fieldLink RX0 48 "NeedleBoard$Kind" "infinity" "J", Cond.methodLink RX0 51 yX0_sizeOf, Cond.instanceMethod yX0_sizeOf, Cond.selects RX0 yX0_sizeOf yX0_sizeOf, Cond.initialized RX0, Cond.code yX0_sizeOf cX0_sizeOf 3 (some .long), Cond.fieldLink RX0 36 "NeedleBoard$Kind" "sideBits" "J", Cond.constantLong RX0 70 (-1), Cond.methodLink RX0 55 yX0_exponentOf, Cond.instanceMethod yX0_exponentOf, Cond.selects RX0 yX0_exponentOf yX0_exponentOf, Cond.code yX0_exponentOf cX0_exponentOf 3 (some .int), Cond.fieldLink RX0 29 "NeedleBoard$Kind" "fractionBits" "I", Cond.methodLink RX0 92 Lib.Math.max.name, Cond.static Lib.Math.max.name, Cond.initialized "java/lang/Math", Cond.code Lib.Math.max.name Lib.Math.max.code 2 (some .int), Cond.methodLink RX0 59 yX0_significandOf, Cond.instanceMethod yX0_significandOf, Cond.selects RX0 yX0_significandOf yX0_significandOf, Cond.code yX0_significandOf cX0_significandOf 5 (some .long), Cond.fieldLink RX0 40 "NeedleBoard$Kind" "hiddenBit" "J", Cond.methodLink RX0 98 yX0_shiftedDown, Cond.static yX0_shiftedDown]
def wsX0_sumByLarger_r2 : List Cond := [Cond.code yX0_shiftedDown cX0_shiftedDown 5 (some .long), Cond.methodLink RX0 62 yX0_sizeFrom, Cond.instanceMethod yX0_sizeFrom, Cond.selects RX0 yX0_sizeFrom yX0_sizeFrom, Cond.code yX0_sizeFrom cX0_sizeFrom 10 (some .long), Cond.fieldLink RX0 33 "NeedleBoard$Kind" "bias" "I", Cond.methodLink RX0 101 yX0_roundedOff, Cond.static yX0_roundedOff, Cond.code yX0_roundedOff cX0_roundedOff 4 (some .long), Cond.constantLong RX0 104 (7), Cond.constantLong RX0 106 (4), Cond.methodLink RX0 108 yX0_isRoundedUp, Cond.static yX0_isRoundedUp, Cond.code yX0_isRoundedUp cX0_isRoundedUp 6 (some .boolean), Cond.methodLink RX0 66 yX0_withSideOf, Cond.instanceMethod yX0_withSideOf, Cond.selects RX0 yX0_withSideOf yX0_withSideOf, Cond.code yX0_withSideOf cX0_withSideOf 5 (some .long)]
def wsX0_sumByLarger : List Cond := .code yX0_sumByLarger cX0_sumByLarger 17 (some .long) :: ((wsX0_sumByLarger_r1 ++ wsX0_sumByLarger_r2))
def wsX0_sum_r1 : List Cond := [Cond.methodLink RX0 51 yX0_sizeOf, Cond.instanceMethod yX0_sizeOf, Cond.selects RX0 yX0_sizeOf yX0_sizeOf, Cond.initialized RX0, Cond.code yX0_sizeOf cX0_sizeOf 3 (some .long), Cond.fieldLink RX0 36 "NeedleBoard$Kind" "sideBits" "J", Cond.constantLong RX0 70 (-1), Cond.methodLink RX0 82 yX0_sumByLarger, Cond.instanceMethod yX0_sumByLarger, Cond.selects RX0 yX0_sumByLarger yX0_sumByLarger, Cond.code yX0_sumByLarger cX0_sumByLarger 17 (some .long), Cond.fieldLink RX0 48 "NeedleBoard$Kind" "infinity" "J", Cond.methodLink RX0 55 yX0_exponentOf, Cond.instanceMethod yX0_exponentOf, Cond.selects RX0 yX0_exponentOf yX0_exponentOf, Cond.code yX0_exponentOf cX0_exponentOf 3 (some .int), Cond.fieldLink RX0 29 "NeedleBoard$Kind" "fractionBits" "I", Cond.methodLink RX0 92 Lib.Math.max.name, Cond.static Lib.Math.max.name, Cond.initialized "java/lang/Math", Cond.code Lib.Math.max.name Lib.Math.max.code 2 (some .int), Cond.methodLink RX0 59 yX0_significandOf, Cond.instanceMethod yX0_significandOf, Cond.selects RX0 yX0_significandOf yX0_significandOf]
def wsX0_sum_r2 : List Cond := [Cond.code yX0_significandOf cX0_significandOf 5 (some .long), Cond.fieldLink RX0 40 "NeedleBoard$Kind" "hiddenBit" "J", Cond.methodLink RX0 98 yX0_shiftedDown, Cond.static yX0_shiftedDown, Cond.code yX0_shiftedDown cX0_shiftedDown 5 (some .long), Cond.methodLink RX0 62 yX0_sizeFrom, Cond.instanceMethod yX0_sizeFrom, Cond.selects RX0 yX0_sizeFrom yX0_sizeFrom, Cond.code yX0_sizeFrom cX0_sizeFrom 10 (some .long), Cond.fieldLink RX0 33 "NeedleBoard$Kind" "bias" "I", Cond.methodLink RX0 101 yX0_roundedOff, Cond.static yX0_roundedOff, Cond.code yX0_roundedOff cX0_roundedOff 4 (some .long), Cond.constantLong RX0 104 (7), Cond.constantLong RX0 106 (4), Cond.methodLink RX0 108 yX0_isRoundedUp, Cond.static yX0_isRoundedUp, Cond.code yX0_isRoundedUp cX0_isRoundedUp 6 (some .boolean), Cond.methodLink RX0 66 yX0_withSideOf, Cond.instanceMethod yX0_withSideOf, Cond.selects RX0 yX0_withSideOf yX0_withSideOf, Cond.code yX0_withSideOf cX0_withSideOf 5 (some .long)]
def wsX0_sum : List Cond := .code yX0_sum cX0_sum 5 (some .long) :: ((wsX0_sum_r1 ++ wsX0_sum_r2))
def wsX0_growsBy : List Cond := .code yX0_growsBy cX0_growsBy 3 (some .boolean) :: ([])
def wsX0_wholeOfPart : List Cond := .code yX0_wholeOfPart cX0_wholeOfPart 7 (some .long) :: ([.fieldLink RX0 43 "NeedleBoard$Kind" "one" "J", .fieldLink RX0 40 "NeedleBoard$Kind" "hiddenBit" "J", .methodLink RX0 51 yX0_sizeOf, .instanceMethod yX0_sizeOf, .selects RX0 yX0_sizeOf yX0_sizeOf, .initialized RX0, .code yX0_sizeOf cX0_sizeOf 3 (some .long), .fieldLink RX0 36 "NeedleBoard$Kind" "sideBits" "J", .constantLong RX0 70 (-1), .methodLink RX0 112 yX0_growsBy, .static yX0_growsBy, .code yX0_growsBy cX0_growsBy 3 (some .boolean)])
def wsX0_wholeOfMixed : List Cond := .code yX0_wholeOfMixed cX0_wholeOfMixed 14 (some .long) :: ([.methodLink RX0 51 yX0_sizeOf, .instanceMethod yX0_sizeOf, .selects RX0 yX0_sizeOf yX0_sizeOf, .initialized RX0, .code yX0_sizeOf cX0_sizeOf 3 (some .long), .fieldLink RX0 36 "NeedleBoard$Kind" "sideBits" "J", .constantLong RX0 70 (-1), .methodLink RX0 59 yX0_significandOf, .instanceMethod yX0_significandOf, .selects RX0 yX0_significandOf yX0_significandOf, .code yX0_significandOf cX0_significandOf 5 (some .long), .fieldLink RX0 40 "NeedleBoard$Kind" "hiddenBit" "J", .methodLink RX0 108 yX0_isRoundedUp, .static yX0_isRoundedUp, .code yX0_isRoundedUp cX0_isRoundedUp 6 (some .boolean), .methodLink RX0 112 yX0_growsBy, .static yX0_growsBy, .code yX0_growsBy cX0_growsBy 3 (some .boolean)])
def wsX0_wholeOf_r1 : List Cond := [Cond.fieldLink RX0 33 "NeedleBoard$Kind" "bias" "I", Cond.fieldLink RX0 29 "NeedleBoard$Kind" "fractionBits" "I", Cond.methodLink RX0 51 yX0_sizeOf, Cond.instanceMethod yX0_sizeOf, Cond.selects RX0 yX0_sizeOf yX0_sizeOf, Cond.initialized RX0, Cond.code yX0_sizeOf cX0_sizeOf 3 (some .long), Cond.fieldLink RX0 36 "NeedleBoard$Kind" "sideBits" "J", Cond.constantLong RX0 70 (-1), Cond.methodLink RX0 55 yX0_exponentOf, Cond.instanceMethod yX0_exponentOf, Cond.selects RX0 yX0_exponentOf yX0_exponentOf, Cond.code yX0_exponentOf cX0_exponentOf 3 (some .int), Cond.methodLink RX0 92 Lib.Math.max.name, Cond.static Lib.Math.max.name, Cond.initialized "java/lang/Math", Cond.code Lib.Math.max.name Lib.Math.max.code 2 (some .int), Cond.methodLink RX0 85 yX0_wholeOfPart, Cond.instanceMethod yX0_wholeOfPart, Cond.selects RX0 yX0_wholeOfPart yX0_wholeOfPart, Cond.code yX0_wholeOfPart cX0_wholeOfPart 7 (some .long), Cond.fieldLink RX0 43 "NeedleBoard$Kind" "one" "J", Cond.fieldLink RX0 40 "NeedleBoard$Kind" "hiddenBit" "J", Cond.methodLink RX0 112 yX0_growsBy]
def wsX0_wholeOf_r2 : List Cond := [Cond.static yX0_growsBy, Cond.code yX0_growsBy cX0_growsBy 3 (some .boolean), Cond.methodLink RX0 88 yX0_wholeOfMixed, Cond.instanceMethod yX0_wholeOfMixed, Cond.selects RX0 yX0_wholeOfMixed yX0_wholeOfMixed, Cond.code yX0_wholeOfMixed cX0_wholeOfMixed 14 (some .long), Cond.methodLink RX0 59 yX0_significandOf, Cond.instanceMethod yX0_significandOf, Cond.selects RX0 yX0_significandOf yX0_significandOf, Cond.code yX0_significandOf cX0_significandOf 5 (some .long), Cond.methodLink RX0 108 yX0_isRoundedUp, Cond.static yX0_isRoundedUp, Cond.code yX0_isRoundedUp cX0_isRoundedUp 6 (some .boolean), Cond.methodLink RX0 66 yX0_withSideOf, Cond.instanceMethod yX0_withSideOf, Cond.selects RX0 yX0_withSideOf yX0_withSideOf, Cond.code yX0_withSideOf cX0_withSideOf 5 (some .long)]
def wsX0_wholeOf : List Cond := .code yX0_wholeOf cX0_wholeOf 9 (some .long) :: ((wsX0_wholeOf_r1 ++ wsX0_wholeOf_r2))
def wsX1_withinLimits : List Cond := .code yX1_withinLimits cX1_withinLimits 3 (some .long) :: ([.fieldLink RX1 7 "NeedleBoard$Needle" "kind" "LNeedleBoard$Kind;", .fieldLink RX1 13 "NeedleBoard$Needle" "low" "J", .fieldLink RX1 17 "NeedleBoard$Needle" "high" "J", .methodLink RX1 50 yX0_greaterOf, .instanceMethod yX0_greaterOf, .selects RX0 yX0_greaterOf yX0_greaterOf, .initialized RX0, .code yX0_greaterOf cX0_greaterOf 5 (some .long), .methodLink RX0 75 yX0_isBelow, .instanceMethod yX0_isBelow, .selects RX0 yX0_isBelow yX0_isBelow, .code yX0_isBelow cX0_isBelow 5 (some .boolean), .methodLink RX0 72 yX0_rankOf, .instanceMethod yX0_rankOf, .selects RX0 yX0_rankOf yX0_rankOf, .code yX0_rankOf cX0_rankOf 3 (some .long), .fieldLink RX0 36 "NeedleBoard$Kind" "sideBits" "J", .constantLong RX0 70 (-1), .methodLink RX1 54 yX0_lesserOf, .instanceMethod yX0_lesserOf, .selects RX0 yX0_lesserOf yX0_lesserOf, .code yX0_lesserOf cX0_lesserOf 5 (some .long)] ++ wsX10)
def wsX1_startAgain_r1 : List Cond := [Cond.fieldLink RX1 35 "NeedleBoard$Needle" "value" "J", Cond.fieldLink RX1 38 "NeedleBoard$Needle" "highest" "J", Cond.fieldLink RX1 41 "NeedleBoard$Needle" "lowest" "J", Cond.fieldLink RX1 7 "NeedleBoard$Needle" "kind" "LNeedleBoard$Kind;", Cond.fieldLink RX1 47 "NeedleBoard$Needle" "greatestSize" "J", Cond.methodLink RX1 31 yX1_withinLimits, Cond.instanceMethod yX1_withinLimits, Cond.selects RX1 yX1_withinLimits yX1_withinLimits, Cond.initialized RX1, Cond.code yX1_withinLimits cX1_withinLimits 3 (some .long), Cond.fieldLink RX1 13 "NeedleBoard$Needle" "low" "J", Cond.fieldLink RX1 17 "NeedleBoard$Needle" "high" "J", Cond.methodLink RX1 50 yX0_greaterOf, Cond.instanceMethod yX0_greaterOf, Cond.selects RX0 yX0_greaterOf yX0_greaterOf, Cond.initialized RX0, Cond.code yX0_greaterOf cX0_greaterOf 5 (some .long), Cond.methodLink RX0 75 yX0_isBelow, Cond.instanceMethod yX0_isBelow, Cond.selects RX0 yX0_isBelow yX0_isBelow, Cond.code yX0_isBelow cX0_isBelow 5 (some .boolean), Cond.methodLink RX0 72 yX0_rankOf, Cond.instanceMethod yX0_rankOf, Cond.selects RX0 yX0_rankOf yX0_rankOf]
def wsX1_startAgain_r2 : List Cond := [Cond.code yX0_rankOf cX0_rankOf 3 (some .long), Cond.fieldLink RX0 36 "NeedleBoard$Kind" "sideBits" "J", Cond.constantLong RX0 70 (-1), Cond.methodLink RX1 54 yX0_lesserOf, Cond.instanceMethod yX0_lesserOf, Cond.selects RX0 yX0_lesserOf yX0_lesserOf, Cond.code yX0_lesserOf cX0_lesserOf 5 (some .long), Cond.methodLink RX1 44 yX0_sizeOf, Cond.instanceMethod yX0_sizeOf, Cond.selects RX0 yX0_sizeOf yX0_sizeOf, Cond.code yX0_sizeOf cX0_sizeOf 3 (some .long)]
def wsX1_startAgain : List Cond := .code yX1_startAgain cX1_startAgain 1 none :: ((wsX1_startAgain_r1 ++ wsX1_startAgain_r2) ++ wsX10)
def wsX1_init_r1 : List Cond := [Cond.methodLink RX1 1 objectInit, Cond.instanceMethod objectInit, Cond.code objectInit ⟨#[0xb1]⟩ 1 none, Cond.fieldLink RX1 7 "NeedleBoard$Needle" "kind" "LNeedleBoard$Kind;", Cond.fieldLink RX1 13 "NeedleBoard$Needle" "low" "J", Cond.fieldLink RX1 17 "NeedleBoard$Needle" "high" "J", Cond.fieldLink RX1 20 "NeedleBoard$Kind" "infinity" "J", Cond.fieldLink RX1 25 "NeedleBoard$Needle" "step" "J", Cond.methodLink RX1 28 yX1_startAgain, Cond.instanceMethod yX1_startAgain, Cond.selects RX1 yX1_startAgain yX1_startAgain, Cond.initialized RX1, Cond.code yX1_startAgain cX1_startAgain 1 none, Cond.fieldLink RX1 35 "NeedleBoard$Needle" "value" "J", Cond.fieldLink RX1 38 "NeedleBoard$Needle" "highest" "J", Cond.fieldLink RX1 41 "NeedleBoard$Needle" "lowest" "J", Cond.fieldLink RX1 47 "NeedleBoard$Needle" "greatestSize" "J", Cond.methodLink RX1 31 yX1_withinLimits, Cond.instanceMethod yX1_withinLimits, Cond.selects RX1 yX1_withinLimits yX1_withinLimits, Cond.code yX1_withinLimits cX1_withinLimits 3 (some .long), Cond.methodLink RX1 50 yX0_greaterOf, Cond.instanceMethod yX0_greaterOf, Cond.selects RX0 yX0_greaterOf yX0_greaterOf]
def wsX1_init_r2 : List Cond := [Cond.initialized RX0, Cond.code yX0_greaterOf cX0_greaterOf 5 (some .long), Cond.methodLink RX0 75 yX0_isBelow, Cond.instanceMethod yX0_isBelow, Cond.selects RX0 yX0_isBelow yX0_isBelow, Cond.code yX0_isBelow cX0_isBelow 5 (some .boolean), Cond.methodLink RX0 72 yX0_rankOf, Cond.instanceMethod yX0_rankOf, Cond.selects RX0 yX0_rankOf yX0_rankOf, Cond.code yX0_rankOf cX0_rankOf 3 (some .long), Cond.fieldLink RX0 36 "NeedleBoard$Kind" "sideBits" "J", Cond.constantLong RX0 70 (-1), Cond.methodLink RX1 54 yX0_lesserOf, Cond.instanceMethod yX0_lesserOf, Cond.selects RX0 yX0_lesserOf yX0_lesserOf, Cond.code yX0_lesserOf cX0_lesserOf 5 (some .long), Cond.methodLink RX1 44 yX0_sizeOf, Cond.instanceMethod yX0_sizeOf, Cond.selects RX0 yX0_sizeOf yX0_sizeOf, Cond.code yX0_sizeOf cX0_sizeOf 3 (some .long)]
def wsX1_init : List Cond := .code yX1_init cX1_init 6 none :: ((wsX1_init_r1 ++ wsX1_init_r2) ++ wsX10)
def wsX1_moveTo_r1 : List Cond := [Cond.fieldLink RX1 35 "NeedleBoard$Needle" "value" "J", Cond.fieldLink RX1 7 "NeedleBoard$Needle" "kind" "LNeedleBoard$Kind;", Cond.fieldLink RX1 38 "NeedleBoard$Needle" "highest" "J", Cond.fieldLink RX1 41 "NeedleBoard$Needle" "lowest" "J", Cond.fieldLink RX1 47 "NeedleBoard$Needle" "greatestSize" "J", Cond.methodLink RX1 57 Lib.MathLoose.max_long.x, Cond.static Lib.MathLoose.max_long.x, Cond.initialized "java/lang/Math", Cond.code Lib.MathLoose.max_long.x Lib.MathLoose.max_long.code 4 (some .long), Cond.methodLink RX1 31 yX1_withinLimits, Cond.instanceMethod yX1_withinLimits, Cond.selects RX1 yX1_withinLimits yX1_withinLimits, Cond.initialized RX1, Cond.code yX1_withinLimits cX1_withinLimits 3 (some .long), Cond.fieldLink RX1 13 "NeedleBoard$Needle" "low" "J", Cond.fieldLink RX1 17 "NeedleBoard$Needle" "high" "J", Cond.methodLink RX1 50 yX0_greaterOf, Cond.instanceMethod yX0_greaterOf, Cond.selects RX0 yX0_greaterOf yX0_greaterOf, Cond.initialized RX0, Cond.code yX0_greaterOf cX0_greaterOf 5 (some .long), Cond.methodLink RX0 75 yX0_isBelow, Cond.instanceMethod yX0_isBelow, Cond.selects RX0 yX0_isBelow yX0_isBelow]
def wsX1_moveTo_r2 : List Cond := [Cond.code yX0_isBelow cX0_isBelow 5 (some .boolean), Cond.methodLink RX0 72 yX0_rankOf, Cond.instanceMethod yX0_rankOf, Cond.selects RX0 yX0_rankOf yX0_rankOf, Cond.code yX0_rankOf cX0_rankOf 3 (some .long), Cond.fieldLink RX0 36 "NeedleBoard$Kind" "sideBits" "J", Cond.constantLong RX0 70 (-1), Cond.methodLink RX1 54 yX0_lesserOf, Cond.instanceMethod yX0_lesserOf, Cond.selects RX0 yX0_lesserOf yX0_lesserOf, Cond.code yX0_lesserOf cX0_lesserOf 5 (some .long), Cond.methodLink RX1 44 yX0_sizeOf, Cond.instanceMethod yX0_sizeOf, Cond.selects RX0 yX0_sizeOf yX0_sizeOf, Cond.code yX0_sizeOf cX0_sizeOf 3 (some .long)]
def wsX1_moveTo : List Cond := .code yX1_moveTo cX1_moveTo 3 none :: ((wsX1_moveTo_r1 ++ wsX1_moveTo_r2) ++ wsX10)
def wsX1_stepTowards_r1 : List Cond := [Cond.fieldLink RX1 7 "NeedleBoard$Needle" "kind" "LNeedleBoard$Kind;", Cond.fieldLink RX1 35 "NeedleBoard$Needle" "value" "J", Cond.fieldLink RX1 25 "NeedleBoard$Needle" "step" "J", Cond.methodLink RX1 62 yX0_areAlike, Cond.instanceMethod yX0_areAlike, Cond.selects RX0 yX0_areAlike yX0_areAlike, Cond.initialized RX0, Cond.code yX0_areAlike cX0_areAlike 5 (some .boolean), Cond.methodLink RX0 51 yX0_sizeOf, Cond.instanceMethod yX0_sizeOf, Cond.selects RX0 yX0_sizeOf yX0_sizeOf, Cond.code yX0_sizeOf cX0_sizeOf 3 (some .long), Cond.fieldLink RX0 36 "NeedleBoard$Kind" "sideBits" "J", Cond.constantLong RX0 70 (-1), Cond.methodLink RX1 66 yX0_negated, Cond.instanceMethod yX0_negated, Cond.selects RX0 yX0_negated yX0_negated, Cond.code yX0_negated cX0_negated 3 (some .long), Cond.methodLink RX1 69 yX0_sum, Cond.instanceMethod yX0_sum, Cond.selects RX0 yX0_sum yX0_sum, Cond.code yX0_sum cX0_sum 5 (some .long), Cond.methodLink RX0 82 yX0_sumByLarger, Cond.instanceMethod yX0_sumByLarger]
def wsX1_stepTowards_r2 : List Cond := [Cond.selects RX0 yX0_sumByLarger yX0_sumByLarger, Cond.code yX0_sumByLarger cX0_sumByLarger 17 (some .long), Cond.fieldLink RX0 48 "NeedleBoard$Kind" "infinity" "J", Cond.methodLink RX0 55 yX0_exponentOf, Cond.instanceMethod yX0_exponentOf, Cond.selects RX0 yX0_exponentOf yX0_exponentOf, Cond.code yX0_exponentOf cX0_exponentOf 3 (some .int), Cond.fieldLink RX0 29 "NeedleBoard$Kind" "fractionBits" "I", Cond.methodLink RX0 92 Lib.Math.max.name, Cond.static Lib.Math.max.name, Cond.initialized "java/lang/Math", Cond.code Lib.Math.max.name Lib.Math.max.code 2 (some .int), Cond.methodLink RX0 59 yX0_significandOf, Cond.instanceMethod yX0_significandOf, Cond.selects RX0 yX0_significandOf yX0_significandOf, Cond.code yX0_significandOf cX0_significandOf 5 (some .long), Cond.fieldLink RX0 40 "NeedleBoard$Kind" "hiddenBit" "J", Cond.methodLink RX0 98 yX0_shiftedDown, Cond.static yX0_shiftedDown, Cond.code yX0_shiftedDown cX0_shiftedDown 5 (some .long), Cond.methodLink RX0 62 yX0_sizeFrom, Cond.instanceMethod yX0_sizeFrom, Cond.selects RX0 yX0_sizeFrom yX0_sizeFrom, Cond.code yX0_sizeFrom cX0_sizeFrom 10 (some .long)]
def wsX1_stepTowards_r3 : List Cond := [Cond.fieldLink RX0 33 "NeedleBoard$Kind" "bias" "I", Cond.methodLink RX0 101 yX0_roundedOff, Cond.static yX0_roundedOff, Cond.code yX0_roundedOff cX0_roundedOff 4 (some .long), Cond.constantLong RX0 104 (7), Cond.constantLong RX0 106 (4), Cond.methodLink RX0 108 yX0_isRoundedUp, Cond.static yX0_isRoundedUp, Cond.code yX0_isRoundedUp cX0_isRoundedUp 6 (some .boolean), Cond.methodLink RX0 66 yX0_withSideOf, Cond.instanceMethod yX0_withSideOf, Cond.selects RX0 yX0_withSideOf yX0_withSideOf, Cond.code yX0_withSideOf cX0_withSideOf 5 (some .long), Cond.methodLink RX1 44 yX0_sizeOf, Cond.methodLink RX1 72 yX0_withSideOf]
def wsX1_stepTowards : List Cond := .code yX1_stepTowards cX1_stepTowards 5 (some .long) :: ((wsX1_stepTowards_r1 ++ (wsX1_stepTowards_r2 ++ wsX1_stepTowards_r3)) ++ wsX10)
def wsX1_fineValue_r1 : List Cond := [Cond.fieldLink RX1 7 "NeedleBoard$Needle" "kind" "LNeedleBoard$Kind;", Cond.fieldLink RX1 75 "NeedleBoard$Kind" "FINE" "LNeedleBoard$Kind;", Cond.fieldLink RX1 35 "NeedleBoard$Needle" "value" "J", Cond.methodLink RX1 78 yX0_fineFromCoarse, Cond.static yX0_fineFromCoarse, Cond.initialized RX0, Cond.code yX0_fineFromCoarse cX0_fineFromCoarse 8 (some .long), Cond.fieldLink RX0 7 "NeedleBoard$Kind" "COARSE" "LNeedleBoard$Kind;", Cond.fieldLink RX0 48 "NeedleBoard$Kind" "infinity" "J", Cond.fieldLink RX0 3 "NeedleBoard$Kind" "FINE" "LNeedleBoard$Kind;", Cond.fieldLink RX0 29 "NeedleBoard$Kind" "fractionBits" "I", Cond.fieldLink RX0 33 "NeedleBoard$Kind" "bias" "I", Cond.methodLink RX0 51 yX0_sizeOf, Cond.instanceMethod yX0_sizeOf, Cond.selects RX0 yX0_sizeOf yX0_sizeOf, Cond.code yX0_sizeOf cX0_sizeOf 3 (some .long), Cond.fieldLink RX0 36 "NeedleBoard$Kind" "sideBits" "J", Cond.constantLong RX0 70 (-1), Cond.methodLink RX0 55 yX0_exponentOf, Cond.instanceMethod yX0_exponentOf, Cond.selects RX0 yX0_exponentOf yX0_exponentOf, Cond.code yX0_exponentOf cX0_exponentOf 3 (some .int), Cond.methodLink RX0 92 Lib.Math.max.name, Cond.static Lib.Math.max.name]
def wsX1_fineValue_r2 : List Cond := [Cond.initialized "java/lang/Math", Cond.code Lib.Math.max.name Lib.Math.max.code 2 (some .int), Cond.methodLink RX0 59 yX0_significandOf, Cond.instanceMethod yX0_significandOf, Cond.selects RX0 yX0_significandOf yX0_significandOf, Cond.code yX0_significandOf cX0_significandOf 5 (some .long), Cond.fieldLink RX0 40 "NeedleBoard$Kind" "hiddenBit" "J", Cond.methodLink RX0 62 yX0_sizeFrom, Cond.instanceMethod yX0_sizeFrom, Cond.selects RX0 yX0_sizeFrom yX0_sizeFrom, Cond.code yX0_sizeFrom cX0_sizeFrom 10 (some .long), Cond.methodLink RX0 98 yX0_shiftedDown, Cond.static yX0_shiftedDown, Cond.code yX0_shiftedDown cX0_shiftedDown 5 (some .long), Cond.methodLink RX0 101 yX0_roundedOff, Cond.static yX0_roundedOff, Cond.code yX0_roundedOff cX0_roundedOff 4 (some .long), Cond.constantLong RX0 104 (7), Cond.constantLong RX0 106 (4), Cond.methodLink RX0 108 yX0_isRoundedUp, Cond.static yX0_isRoundedUp, Cond.code yX0_isRoundedUp cX0_isRoundedUp 6 (some .boolean), Cond.methodLink RX0 66 yX0_withSideOf, Cond.instanceMethod yX0_withSideOf]
def wsX1_fineValue_r3 : List Cond := [Cond.selects RX0 yX0_withSideOf yX0_withSideOf, Cond.code yX0_withSideOf cX0_withSideOf 5 (some .long)]
def wsX1_fineValue : List Cond := .code yX1_fineValue cX1_fineValue 1 (some .long) :: ((wsX1_fineValue_r1 ++ (wsX1_fineValue_r2 ++ wsX1_fineValue_r3)) ++ wsX10)
def wsX1_isCounted : List Cond := .code yX1_isCounted cX1_isCounted 2 (some .boolean) :: ([.fieldLink RX1 7 "NeedleBoard$Needle" "kind" "LNeedleBoard$Kind;", .fieldLink RX1 75 "NeedleBoard$Kind" "FINE" "LNeedleBoard$Kind;", .fieldLink RX1 35 "NeedleBoard$Needle" "value" "J", .fieldLink RX1 13 "NeedleBoard$Needle" "low" "J", .fieldLink RX1 17 "NeedleBoard$Needle" "high" "J", .methodLink RX1 44 yX0_sizeOf, .instanceMethod yX0_sizeOf, .selects RX0 yX0_sizeOf yX0_sizeOf, .initialized RX0, .code yX0_sizeOf cX0_sizeOf 3 (some .long), .fieldLink RX0 36 "NeedleBoard$Kind" "sideBits" "J", .constantLong RX0 70 (-1)] ++ wsX10)
def wsX2_init : List Cond := .code yX2_init cX2_init 1 none :: ([.methodLink RX2 1 objectInit, .instanceMethod objectInit, .code objectInit ⟨#[0xb1]⟩ 1 none, .classLink RX2 9 RX1, .fieldLink RX2 11 "NeedleBoard" "needles" "[LNeedleBoard$Needle;"] ++ wsX20)
def wsX2_numberFrom : List Cond := .code yX2_numberFrom cX2_numberFrom 5 (some .long) :: ([.classLink RX2 32 "java/lang/IllegalArgumentException", .initialized "java/lang/IllegalArgumentException", .methodLink RX2 166 yX0_trimmed, .instanceMethod yX0_trimmed, .selects RX0 yX0_trimmed yX0_trimmed, .initialized RX0, .code yX0_trimmed cX0_trimmed 3 (some .long), .fieldLink RX0 7 "NeedleBoard$Kind" "COARSE" "LNeedleBoard$Kind;", .methodLink RX2 169 yX0_isNumber, .instanceMethod yX0_isNumber, .selects RX0 yX0_isNumber yX0_isNumber, .code yX0_isNumber cX0_isNumber 3 (some .boolean), .fieldLink RX0 48 "NeedleBoard$Kind" "infinity" "J", .methodLink RX0 51 yX0_sizeOf, .instanceMethod yX0_sizeOf, .selects RX0 yX0_sizeOf yX0_sizeOf, .code yX0_sizeOf cX0_sizeOf 3 (some .long), .fieldLink RX0 36 "NeedleBoard$Kind" "sideBits" "J", .constantLong RX0 70 (-1)] ++ (vx_atS RX2 36 "java/lang/IllegalArgumentException" ["java/lang/RuntimeException", "java/lang/Exception"]).filter goodWord)
def wsX2_needle_r1 : List Cond := [Cond.classLink RX2 32 "java/lang/IllegalArgumentException", Cond.initialized "java/lang/IllegalArgumentException", Cond.classLink RX2 43 "java/lang/IllegalStateException", Cond.initialized "java/lang/IllegalStateException", Cond.fieldLink RX2 15 "NeedleBoard$Kind" "FINE" "LNeedleBoard$Kind;", Cond.fieldLink RX2 21 "NeedleBoard$Kind" "COARSE" "LNeedleBoard$Kind;", Cond.fieldLink RX2 39 "NeedleBoard" "made" "I", Cond.fieldLink RX2 11 "NeedleBoard" "needles" "[LNeedleBoard$Needle;", Cond.classLink RX2 9 RX1, Cond.instantiable RX1 8, Cond.initialized RX1, Cond.methodLink RX2 24 yX2_numberFrom, Cond.static yX2_numberFrom, Cond.initialized RX2, Cond.code yX2_numberFrom cX2_numberFrom 5 (some .long), Cond.methodLink RX2 166 yX0_trimmed, Cond.instanceMethod yX0_trimmed, Cond.selects RX0 yX0_trimmed yX0_trimmed, Cond.initialized RX0, Cond.code yX0_trimmed cX0_trimmed 3 (some .long), Cond.fieldLink RX0 7 "NeedleBoard$Kind" "COARSE" "LNeedleBoard$Kind;", Cond.methodLink RX2 169 yX0_isNumber, Cond.instanceMethod yX0_isNumber, Cond.selects RX0 yX0_isNumber yX0_isNumber]
def wsX2_needle_r2 : List Cond := [Cond.code yX0_isNumber cX0_isNumber 3 (some .boolean), Cond.fieldLink RX0 48 "NeedleBoard$Kind" "infinity" "J", Cond.methodLink RX0 51 yX0_sizeOf, Cond.instanceMethod yX0_sizeOf, Cond.selects RX0 yX0_sizeOf yX0_sizeOf, Cond.code yX0_sizeOf cX0_sizeOf 3 (some .long), Cond.fieldLink RX0 36 "NeedleBoard$Kind" "sideBits" "J", Cond.constantLong RX0 70 (-1), Cond.methodLink RX2 28 yX0_isBelow, Cond.instanceMethod yX0_isBelow, Cond.selects RX0 yX0_isBelow yX0_isBelow, Cond.code yX0_isBelow cX0_isBelow 5 (some .boolean), Cond.methodLink RX0 72 yX0_rankOf, Cond.instanceMethod yX0_rankOf, Cond.selects RX0 yX0_rankOf yX0_rankOf, Cond.code yX0_rankOf cX0_rankOf 3 (some .long), Cond.methodLink RX2 48 yX1_init, Cond.instanceMethod yX1_init, Cond.code yX1_init cX1_init 6 none, Cond.methodLink RX1 1 objectInit, Cond.instanceMethod objectInit, Cond.code objectInit ⟨#[0xb1]⟩ 1 none, Cond.fieldLink RX1 7 "NeedleBoard$Needle" "kind" "LNeedleBoard$Kind;", Cond.fieldLink RX1 13 "NeedleBoard$Needle" "low" "J"]
def wsX2_needle_r3 : List Cond := [Cond.fieldLink RX1 17 "NeedleBoard$Needle" "high" "J", Cond.fieldLink RX1 20 "NeedleBoard$Kind" "infinity" "J", Cond.fieldLink RX1 25 "NeedleBoard$Needle" "step" "J", Cond.methodLink RX1 28 yX1_startAgain, Cond.instanceMethod yX1_startAgain, Cond.selects RX1 yX1_startAgain yX1_startAgain, Cond.code yX1_startAgain cX1_startAgain 1 none, Cond.fieldLink RX1 35 "NeedleBoard$Needle" "value" "J", Cond.fieldLink RX1 38 "NeedleBoard$Needle" "highest" "J", Cond.fieldLink RX1 41 "NeedleBoard$Needle" "lowest" "J", Cond.fieldLink RX1 47 "NeedleBoard$Needle" "greatestSize" "J", Cond.methodLink RX1 31 yX1_withinLimits, Cond.instanceMethod yX1_withinLimits, Cond.selects RX1 yX1_withinLimits yX1_withinLimits, Cond.code yX1_withinLimits cX1_withinLimits 3 (some .long), Cond.methodLink RX1 50 yX0_greaterOf, Cond.instanceMethod yX0_greaterOf, Cond.selects RX0 yX0_greaterOf yX0_greaterOf, Cond.code yX0_greaterOf cX0_greaterOf 5 (some .long), Cond.methodLink RX0 75 yX0_isBelow, Cond.methodLink RX1 54 yX0_lesserOf, Cond.instanceMethod yX0_lesserOf, Cond.selects RX0 yX0_lesserOf yX0_lesserOf, Cond.code yX0_lesserOf cX0_lesserOf 5 (some .long)]
def wsX2_needle_r4 : List Cond := [Cond.methodLink RX1 44 yX0_sizeOf]
def wsX2_needle : List Cond := .code yX2_needle cX2_needle 11 (some .int) :: ((wsX2_needle_r1 ++ (wsX2_needle_r2 ++ (wsX2_needle_r3 ++ wsX2_needle_r4))) ++ wsX20 ++ wsX10 ++ (vx_atS RX2 36 "java/lang/IllegalArgumentException" ["java/lang/RuntimeException", "java/lang/Exception"]).filter goodWord ++ (vx_atS RX2 47 "java/lang/IllegalStateException" ["java/lang/RuntimeException", "java/lang/Exception"]).filter goodWord)
def wsX2_needleAt : List Cond := .code yX2_needleAt cX2_needleAt 3 (some (.object "NeedleBoard$Needle")) :: ([.classLink RX2 161 "java/util/NoSuchElementException", .initialized "java/util/NoSuchElementException", .fieldLink RX2 11 "NeedleBoard" "needles" "[LNeedleBoard$Needle;"] ++ wsX20 ++ ns_atg)
def wsX2_put_r1 : List Cond := [Cond.fieldLink RX2 55 "NeedleBoard$Needle" "kind" "LNeedleBoard$Kind;", Cond.fieldLink RX2 62 "NeedleBoard" "moves" "I", Cond.fieldLink RX2 65 "NeedleBoard$Needle" "value" "J", Cond.methodLink RX2 51 yX2_needleAt, Cond.instanceMethod yX2_needleAt, Cond.selects RX2 yX2_needleAt yX2_needleAt, Cond.initialized RX2, Cond.code yX2_needleAt cX2_needleAt 3 (some (.object "NeedleBoard$Needle")), Cond.classLink RX2 161 "java/util/NoSuchElementException", Cond.initialized "java/util/NoSuchElementException", Cond.fieldLink RX2 11 "NeedleBoard" "needles" "[LNeedleBoard$Needle;", Cond.methodLink RX2 24 yX2_numberFrom, Cond.static yX2_numberFrom, Cond.code yX2_numberFrom cX2_numberFrom 5 (some .long), Cond.classLink RX2 32 "java/lang/IllegalArgumentException", Cond.initialized "java/lang/IllegalArgumentException", Cond.methodLink RX2 166 yX0_trimmed, Cond.instanceMethod yX0_trimmed, Cond.selects RX0 yX0_trimmed yX0_trimmed, Cond.initialized RX0, Cond.code yX0_trimmed cX0_trimmed 3 (some .long), Cond.fieldLink RX0 7 "NeedleBoard$Kind" "COARSE" "LNeedleBoard$Kind;", Cond.methodLink RX2 169 yX0_isNumber, Cond.instanceMethod yX0_isNumber]
def wsX2_put_r2 : List Cond := [Cond.selects RX0 yX0_isNumber yX0_isNumber, Cond.code yX0_isNumber cX0_isNumber 3 (some .boolean), Cond.fieldLink RX0 48 "NeedleBoard$Kind" "infinity" "J", Cond.methodLink RX0 51 yX0_sizeOf, Cond.instanceMethod yX0_sizeOf, Cond.selects RX0 yX0_sizeOf yX0_sizeOf, Cond.code yX0_sizeOf cX0_sizeOf 3 (some .long), Cond.fieldLink RX0 36 "NeedleBoard$Kind" "sideBits" "J", Cond.constantLong RX0 70 (-1), Cond.methodLink RX2 58 yX1_moveTo, Cond.instanceMethod yX1_moveTo, Cond.selects RX1 yX1_moveTo yX1_moveTo, Cond.initialized RX1, Cond.code yX1_moveTo cX1_moveTo 3 none, Cond.fieldLink RX1 35 "NeedleBoard$Needle" "value" "J", Cond.fieldLink RX1 7 "NeedleBoard$Needle" "kind" "LNeedleBoard$Kind;", Cond.fieldLink RX1 38 "NeedleBoard$Needle" "highest" "J", Cond.fieldLink RX1 41 "NeedleBoard$Needle" "lowest" "J", Cond.fieldLink RX1 47 "NeedleBoard$Needle" "greatestSize" "J", Cond.methodLink RX1 57 Lib.MathLoose.max_long.x, Cond.static Lib.MathLoose.max_long.x, Cond.initialized "java/lang/Math", Cond.code Lib.MathLoose.max_long.x Lib.MathLoose.max_long.code 4 (some .long), Cond.methodLink RX1 31 yX1_withinLimits]
def wsX2_put_r3 : List Cond := [Cond.instanceMethod yX1_withinLimits, Cond.selects RX1 yX1_withinLimits yX1_withinLimits, Cond.code yX1_withinLimits cX1_withinLimits 3 (some .long), Cond.fieldLink RX1 13 "NeedleBoard$Needle" "low" "J", Cond.fieldLink RX1 17 "NeedleBoard$Needle" "high" "J", Cond.methodLink RX1 50 yX0_greaterOf, Cond.instanceMethod yX0_greaterOf, Cond.selects RX0 yX0_greaterOf yX0_greaterOf, Cond.code yX0_greaterOf cX0_greaterOf 5 (some .long), Cond.methodLink RX0 75 yX0_isBelow, Cond.instanceMethod yX0_isBelow, Cond.selects RX0 yX0_isBelow yX0_isBelow, Cond.code yX0_isBelow cX0_isBelow 5 (some .boolean), Cond.methodLink RX0 72 yX0_rankOf, Cond.instanceMethod yX0_rankOf, Cond.selects RX0 yX0_rankOf yX0_rankOf, Cond.code yX0_rankOf cX0_rankOf 3 (some .long), Cond.methodLink RX1 54 yX0_lesserOf, Cond.instanceMethod yX0_lesserOf, Cond.selects RX0 yX0_lesserOf yX0_lesserOf, Cond.code yX0_lesserOf cX0_lesserOf 5 (some .long), Cond.methodLink RX1 44 yX0_sizeOf]
def wsX2_put : List Cond := .code yX2_put cX2_put 5 (some .long) :: ((wsX2_put_r1 ++ (wsX2_put_r2 ++ wsX2_put_r3)) ++ wsX10 ++ wsX20 ++ ns_atg ++ (vx_atS RX2 36 "java/lang/IllegalArgumentException" ["java/lang/RuntimeException", "java/lang/Exception"]).filter goodWord)
def wsX2_turn_r1 : List Cond := [Cond.classLink RX2 43 "java/lang/IllegalStateException", Cond.initialized "java/lang/IllegalStateException", Cond.fieldLink RX2 55 "NeedleBoard$Needle" "kind" "LNeedleBoard$Kind;", Cond.fieldLink RX2 65 "NeedleBoard$Needle" "value" "J", Cond.fieldLink RX2 62 "NeedleBoard" "moves" "I", Cond.methodLink RX2 51 yX2_needleAt, Cond.instanceMethod yX2_needleAt, Cond.selects RX2 yX2_needleAt yX2_needleAt, Cond.initialized RX2, Cond.code yX2_needleAt cX2_needleAt 3 (some (.object "NeedleBoard$Needle")), Cond.classLink RX2 161 "java/util/NoSuchElementException", Cond.initialized "java/util/NoSuchElementException", Cond.fieldLink RX2 11 "NeedleBoard" "needles" "[LNeedleBoard$Needle;", Cond.methodLink RX2 24 yX2_numberFrom, Cond.static yX2_numberFrom, Cond.code yX2_numberFrom cX2_numberFrom 5 (some .long), Cond.classLink RX2 32 "java/lang/IllegalArgumentException", Cond.initialized "java/lang/IllegalArgumentException", Cond.methodLink RX2 166 yX0_trimmed, Cond.instanceMethod yX0_trimmed, Cond.selects RX0 yX0_trimmed yX0_trimmed, Cond.initialized RX0, Cond.code yX0_trimmed cX0_trimmed 3 (some .long), Cond.fieldLink RX0 7 "NeedleBoard$Kind" "COARSE" "LNeedleBoard$Kind;"]
def wsX2_turn_r2 : List Cond := [Cond.methodLink RX2 169 yX0_isNumber, Cond.instanceMethod yX0_isNumber, Cond.selects RX0 yX0_isNumber yX0_isNumber, Cond.code yX0_isNumber cX0_isNumber 3 (some .boolean), Cond.fieldLink RX0 48 "NeedleBoard$Kind" "infinity" "J", Cond.methodLink RX0 51 yX0_sizeOf, Cond.instanceMethod yX0_sizeOf, Cond.selects RX0 yX0_sizeOf yX0_sizeOf, Cond.code yX0_sizeOf cX0_sizeOf 3 (some .long), Cond.fieldLink RX0 36 "NeedleBoard$Kind" "sideBits" "J", Cond.constantLong RX0 70 (-1), Cond.methodLink RX2 69 yX0_areOppositeInfinities, Cond.instanceMethod yX0_areOppositeInfinities, Cond.selects RX0 yX0_areOppositeInfinities yX0_areOppositeInfinities, Cond.code yX0_areOppositeInfinities cX0_areOppositeInfinities 5 (some .boolean), Cond.methodLink RX0 79 yX0_negated, Cond.instanceMethod yX0_negated, Cond.selects RX0 yX0_negated yX0_negated, Cond.code yX0_negated cX0_negated 3 (some .long), Cond.methodLink RX2 74 yX0_sum, Cond.instanceMethod yX0_sum, Cond.selects RX0 yX0_sum yX0_sum, Cond.code yX0_sum cX0_sum 5 (some .long), Cond.methodLink RX0 82 yX0_sumByLarger]
def wsX2_turn_r3 : List Cond := [Cond.instanceMethod yX0_sumByLarger, Cond.selects RX0 yX0_sumByLarger yX0_sumByLarger, Cond.code yX0_sumByLarger cX0_sumByLarger 17 (some .long), Cond.methodLink RX0 55 yX0_exponentOf, Cond.instanceMethod yX0_exponentOf, Cond.selects RX0 yX0_exponentOf yX0_exponentOf, Cond.code yX0_exponentOf cX0_exponentOf 3 (some .int), Cond.fieldLink RX0 29 "NeedleBoard$Kind" "fractionBits" "I", Cond.methodLink RX0 92 Lib.Math.max.name, Cond.static Lib.Math.max.name, Cond.initialized "java/lang/Math", Cond.code Lib.Math.max.name Lib.Math.max.code 2 (some .int), Cond.methodLink RX0 59 yX0_significandOf, Cond.instanceMethod yX0_significandOf, Cond.selects RX0 yX0_significandOf yX0_significandOf, Cond.code yX0_significandOf cX0_significandOf 5 (some .long), Cond.fieldLink RX0 40 "NeedleBoard$Kind" "hiddenBit" "J", Cond.methodLink RX0 98 yX0_shiftedDown, Cond.static yX0_shiftedDown, Cond.code yX0_shiftedDown cX0_shiftedDown 5 (some .long), Cond.methodLink RX0 62 yX0_sizeFrom, Cond.instanceMethod yX0_sizeFrom, Cond.selects RX0 yX0_sizeFrom yX0_sizeFrom, Cond.code yX0_sizeFrom cX0_sizeFrom 10 (some .long)]
def wsX2_turn_r4 : List Cond := [Cond.fieldLink RX0 33 "NeedleBoard$Kind" "bias" "I", Cond.methodLink RX0 101 yX0_roundedOff, Cond.static yX0_roundedOff, Cond.code yX0_roundedOff cX0_roundedOff 4 (some .long), Cond.constantLong RX0 104 (7), Cond.constantLong RX0 106 (4), Cond.methodLink RX0 108 yX0_isRoundedUp, Cond.static yX0_isRoundedUp, Cond.code yX0_isRoundedUp cX0_isRoundedUp 6 (some .boolean), Cond.methodLink RX0 66 yX0_withSideOf, Cond.instanceMethod yX0_withSideOf, Cond.selects RX0 yX0_withSideOf yX0_withSideOf, Cond.code yX0_withSideOf cX0_withSideOf 5 (some .long), Cond.methodLink RX2 58 yX1_moveTo, Cond.instanceMethod yX1_moveTo, Cond.selects RX1 yX1_moveTo yX1_moveTo, Cond.initialized RX1, Cond.code yX1_moveTo cX1_moveTo 3 none, Cond.fieldLink RX1 35 "NeedleBoard$Needle" "value" "J", Cond.fieldLink RX1 7 "NeedleBoard$Needle" "kind" "LNeedleBoard$Kind;", Cond.fieldLink RX1 38 "NeedleBoard$Needle" "highest" "J", Cond.fieldLink RX1 41 "NeedleBoard$Needle" "lowest" "J", Cond.fieldLink RX1 47 "NeedleBoard$Needle" "greatestSize" "J", Cond.methodLink RX1 57 Lib.MathLoose.max_long.x]
def wsX2_turn_r5 : List Cond := [Cond.static Lib.MathLoose.max_long.x, Cond.code Lib.MathLoose.max_long.x Lib.MathLoose.max_long.code 4 (some .long), Cond.methodLink RX1 31 yX1_withinLimits, Cond.instanceMethod yX1_withinLimits, Cond.selects RX1 yX1_withinLimits yX1_withinLimits, Cond.code yX1_withinLimits cX1_withinLimits 3 (some .long), Cond.fieldLink RX1 13 "NeedleBoard$Needle" "low" "J", Cond.fieldLink RX1 17 "NeedleBoard$Needle" "high" "J", Cond.methodLink RX1 50 yX0_greaterOf, Cond.instanceMethod yX0_greaterOf, Cond.selects RX0 yX0_greaterOf yX0_greaterOf, Cond.code yX0_greaterOf cX0_greaterOf 5 (some .long), Cond.methodLink RX0 75 yX0_isBelow, Cond.instanceMethod yX0_isBelow, Cond.selects RX0 yX0_isBelow yX0_isBelow, Cond.code yX0_isBelow cX0_isBelow 5 (some .boolean), Cond.methodLink RX0 72 yX0_rankOf, Cond.instanceMethod yX0_rankOf, Cond.selects RX0 yX0_rankOf yX0_rankOf, Cond.code yX0_rankOf cX0_rankOf 3 (some .long), Cond.methodLink RX1 54 yX0_lesserOf, Cond.instanceMethod yX0_lesserOf, Cond.selects RX0 yX0_lesserOf yX0_lesserOf, Cond.code yX0_lesserOf cX0_lesserOf 5 (some .long)]
def wsX2_turn_r6 : List Cond := [Cond.methodLink RX1 44 yX0_sizeOf]
def wsX2_turn : List Cond := .code yX2_turn cX2_turn 7 (some .long) :: ((wsX2_turn_r1 ++ (wsX2_turn_r2 ++ (wsX2_turn_r3 ++ (wsX2_turn_r4 ++ (wsX2_turn_r5 ++ wsX2_turn_r6))))) ++ wsX10 ++ wsX20 ++ (vx_atS RX2 47 "java/lang/IllegalStateException" ["java/lang/RuntimeException", "java/lang/Exception"]).filter goodWord ++ ns_atg ++ (vx_atS RX2 36 "java/lang/IllegalArgumentException" ["java/lang/RuntimeException", "java/lang/Exception"]).filter goodWord)
def wsX2_damp_r1 : List Cond := [Cond.fieldLink RX2 55 "NeedleBoard$Needle" "kind" "LNeedleBoard$Kind;", Cond.fieldLink RX2 82 "NeedleBoard$Needle" "step" "J", Cond.methodLink RX2 51 yX2_needleAt, Cond.instanceMethod yX2_needleAt, Cond.selects RX2 yX2_needleAt yX2_needleAt, Cond.initialized RX2, Cond.code yX2_needleAt cX2_needleAt 3 (some (.object "NeedleBoard$Needle")), Cond.classLink RX2 161 "java/util/NoSuchElementException", Cond.initialized "java/util/NoSuchElementException", Cond.fieldLink RX2 11 "NeedleBoard" "needles" "[LNeedleBoard$Needle;", Cond.methodLink RX2 24 yX2_numberFrom, Cond.static yX2_numberFrom, Cond.code yX2_numberFrom cX2_numberFrom 5 (some .long), Cond.classLink RX2 32 "java/lang/IllegalArgumentException", Cond.initialized "java/lang/IllegalArgumentException", Cond.methodLink RX2 166 yX0_trimmed, Cond.instanceMethod yX0_trimmed, Cond.selects RX0 yX0_trimmed yX0_trimmed, Cond.initialized RX0, Cond.code yX0_trimmed cX0_trimmed 3 (some .long), Cond.fieldLink RX0 7 "NeedleBoard$Kind" "COARSE" "LNeedleBoard$Kind;", Cond.methodLink RX2 169 yX0_isNumber, Cond.instanceMethod yX0_isNumber, Cond.selects RX0 yX0_isNumber yX0_isNumber]
def wsX2_damp_r2 : List Cond := [Cond.code yX0_isNumber cX0_isNumber 3 (some .boolean), Cond.fieldLink RX0 48 "NeedleBoard$Kind" "infinity" "J", Cond.methodLink RX0 51 yX0_sizeOf, Cond.instanceMethod yX0_sizeOf, Cond.selects RX0 yX0_sizeOf yX0_sizeOf, Cond.code yX0_sizeOf cX0_sizeOf 3 (some .long), Cond.fieldLink RX0 36 "NeedleBoard$Kind" "sideBits" "J", Cond.constantLong RX0 70 (-1), Cond.methodLink RX2 78 yX0_sizeOf]
def wsX2_damp : List Cond := .code yX2_damp cX2_damp 5 (some .long) :: ((wsX2_damp_r1 ++ wsX2_damp_r2) ++ wsX10 ++ wsX20 ++ ns_atg ++ (vx_atS RX2 36 "java/lang/IllegalArgumentException" ["java/lang/RuntimeException", "java/lang/Exception"]).filter goodWord)
def wsX2_pull_r1 : List Cond := [Cond.fieldLink RX2 55 "NeedleBoard$Needle" "kind" "LNeedleBoard$Kind;", Cond.fieldLink RX2 62 "NeedleBoard" "moves" "I", Cond.fieldLink RX2 65 "NeedleBoard$Needle" "value" "J", Cond.methodLink RX2 51 yX2_needleAt, Cond.instanceMethod yX2_needleAt, Cond.selects RX2 yX2_needleAt yX2_needleAt, Cond.initialized RX2, Cond.code yX2_needleAt cX2_needleAt 3 (some (.object "NeedleBoard$Needle")), Cond.classLink RX2 161 "java/util/NoSuchElementException", Cond.initialized "java/util/NoSuchElementException", Cond.fieldLink RX2 11 "NeedleBoard" "needles" "[LNeedleBoard$Needle;", Cond.methodLink RX2 24 yX2_numberFrom, Cond.static yX2_numberFrom, Cond.code yX2_numberFrom cX2_numberFrom 5 (some .long), Cond.classLink RX2 32 "java/lang/IllegalArgumentException", Cond.initialized "java/lang/IllegalArgumentException", Cond.methodLink RX2 166 yX0_trimmed, Cond.instanceMethod yX0_trimmed, Cond.selects RX0 yX0_trimmed yX0_trimmed, Cond.initialized RX0, Cond.code yX0_trimmed cX0_trimmed 3 (some .long), Cond.fieldLink RX0 7 "NeedleBoard$Kind" "COARSE" "LNeedleBoard$Kind;", Cond.methodLink RX2 169 yX0_isNumber, Cond.instanceMethod yX0_isNumber]
def wsX2_pull_r2 : List Cond := [Cond.selects RX0 yX0_isNumber yX0_isNumber, Cond.code yX0_isNumber cX0_isNumber 3 (some .boolean), Cond.fieldLink RX0 48 "NeedleBoard$Kind" "infinity" "J", Cond.methodLink RX0 51 yX0_sizeOf, Cond.instanceMethod yX0_sizeOf, Cond.selects RX0 yX0_sizeOf yX0_sizeOf, Cond.code yX0_sizeOf cX0_sizeOf 3 (some .long), Cond.fieldLink RX0 36 "NeedleBoard$Kind" "sideBits" "J", Cond.constantLong RX0 70 (-1), Cond.methodLink RX2 85 yX1_stepTowards, Cond.instanceMethod yX1_stepTowards, Cond.selects RX1 yX1_stepTowards yX1_stepTowards, Cond.initialized RX1, Cond.code yX1_stepTowards cX1_stepTowards 5 (some .long), Cond.fieldLink RX1 7 "NeedleBoard$Needle" "kind" "LNeedleBoard$Kind;", Cond.fieldLink RX1 35 "NeedleBoard$Needle" "value" "J", Cond.fieldLink RX1 25 "NeedleBoard$Needle" "step" "J", Cond.methodLink RX1 62 yX0_areAlike, Cond.instanceMethod yX0_areAlike, Cond.selects RX0 yX0_areAlike yX0_areAlike, Cond.code yX0_areAlike cX0_areAlike 5 (some .boolean), Cond.methodLink RX1 66 yX0_negated, Cond.instanceMethod yX0_negated, Cond.selects RX0 yX0_negated yX0_negated]
def wsX2_pull_r3 : List Cond := [Cond.code yX0_negated cX0_negated 3 (some .long), Cond.methodLink RX1 69 yX0_sum, Cond.instanceMethod yX0_sum, Cond.selects RX0 yX0_sum yX0_sum, Cond.code yX0_sum cX0_sum 5 (some .long), Cond.methodLink RX0 82 yX0_sumByLarger, Cond.instanceMethod yX0_sumByLarger, Cond.selects RX0 yX0_sumByLarger yX0_sumByLarger, Cond.code yX0_sumByLarger cX0_sumByLarger 17 (some .long), Cond.methodLink RX0 55 yX0_exponentOf, Cond.instanceMethod yX0_exponentOf, Cond.selects RX0 yX0_exponentOf yX0_exponentOf, Cond.code yX0_exponentOf cX0_exponentOf 3 (some .int), Cond.fieldLink RX0 29 "NeedleBoard$Kind" "fractionBits" "I", Cond.methodLink RX0 92 Lib.Math.max.name, Cond.static Lib.Math.max.name, Cond.initialized "java/lang/Math", Cond.code Lib.Math.max.name Lib.Math.max.code 2 (some .int), Cond.methodLink RX0 59 yX0_significandOf, Cond.instanceMethod yX0_significandOf, Cond.selects RX0 yX0_significandOf yX0_significandOf, Cond.code yX0_significandOf cX0_significandOf 5 (some .long), Cond.fieldLink RX0 40 "NeedleBoard$Kind" "hiddenBit" "J", Cond.methodLink RX0 98 yX0_shiftedDown]
def wsX2_pull_r4 : List Cond := [Cond.static yX0_shiftedDown, Cond.code yX0_shiftedDown cX0_shiftedDown 5 (some .long), Cond.methodLink RX0 62 yX0_sizeFrom, Cond.instanceMethod yX0_sizeFrom, Cond.selects RX0 yX0_sizeFrom yX0_sizeFrom, Cond.code yX0_sizeFrom cX0_sizeFrom 10 (some .long), Cond.fieldLink RX0 33 "NeedleBoard$Kind" "bias" "I", Cond.methodLink RX0 101 yX0_roundedOff, Cond.static yX0_roundedOff, Cond.code yX0_roundedOff cX0_roundedOff 4 (some .long), Cond.constantLong RX0 104 (7), Cond.constantLong RX0 106 (4), Cond.methodLink RX0 108 yX0_isRoundedUp, Cond.static yX0_isRoundedUp, Cond.code yX0_isRoundedUp cX0_isRoundedUp 6 (some .boolean), Cond.methodLink RX0 66 yX0_withSideOf, Cond.instanceMethod yX0_withSideOf, Cond.selects RX0 yX0_withSideOf yX0_withSideOf, Cond.code yX0_withSideOf cX0_withSideOf 5 (some .long), Cond.methodLink RX1 44 yX0_sizeOf, Cond.methodLink RX1 72 yX0_withSideOf, Cond.methodLink RX2 58 yX1_moveTo, Cond.instanceMethod yX1_moveTo, Cond.selects RX1 yX1_moveTo yX1_moveTo]
def wsX2_pull_r5 : List Cond := [Cond.code yX1_moveTo cX1_moveTo 3 none, Cond.fieldLink RX1 38 "NeedleBoard$Needle" "highest" "J", Cond.fieldLink RX1 41 "NeedleBoard$Needle" "lowest" "J", Cond.fieldLink RX1 47 "NeedleBoard$Needle" "greatestSize" "J", Cond.methodLink RX1 57 Lib.MathLoose.max_long.x, Cond.static Lib.MathLoose.max_long.x, Cond.code Lib.MathLoose.max_long.x Lib.MathLoose.max_long.code 4 (some .long), Cond.methodLink RX1 31 yX1_withinLimits, Cond.instanceMethod yX1_withinLimits, Cond.selects RX1 yX1_withinLimits yX1_withinLimits, Cond.code yX1_withinLimits cX1_withinLimits 3 (some .long), Cond.fieldLink RX1 13 "NeedleBoard$Needle" "low" "J", Cond.fieldLink RX1 17 "NeedleBoard$Needle" "high" "J", Cond.methodLink RX1 50 yX0_greaterOf, Cond.instanceMethod yX0_greaterOf, Cond.selects RX0 yX0_greaterOf yX0_greaterOf, Cond.code yX0_greaterOf cX0_greaterOf 5 (some .long), Cond.methodLink RX0 75 yX0_isBelow, Cond.instanceMethod yX0_isBelow, Cond.selects RX0 yX0_isBelow yX0_isBelow, Cond.code yX0_isBelow cX0_isBelow 5 (some .boolean), Cond.methodLink RX0 72 yX0_rankOf, Cond.instanceMethod yX0_rankOf, Cond.selects RX0 yX0_rankOf yX0_rankOf]
def wsX2_pull_r6 : List Cond := [Cond.code yX0_rankOf cX0_rankOf 3 (some .long), Cond.methodLink RX1 54 yX0_lesserOf, Cond.instanceMethod yX0_lesserOf, Cond.selects RX0 yX0_lesserOf yX0_lesserOf, Cond.code yX0_lesserOf cX0_lesserOf 5 (some .long), Cond.methodLink RX2 88 yX0_areAlike]
def wsX2_pull : List Cond := .code yX2_pull cX2_pull 7 (some .boolean) :: ((wsX2_pull_r1 ++ (wsX2_pull_r2 ++ (wsX2_pull_r3 ++ (wsX2_pull_r4 ++ (wsX2_pull_r5 ++ wsX2_pull_r6))))) ++ wsX10 ++ wsX20 ++ ns_atg ++ (vx_atS RX2 36 "java/lang/IllegalArgumentException" ["java/lang/RuntimeException", "java/lang/Exception"]).filter goodWord)
def wsX2_rest_r1 : List Cond := [Cond.classLink RX2 32 "java/lang/IllegalArgumentException", Cond.initialized "java/lang/IllegalArgumentException", Cond.fieldLink RX2 55 "NeedleBoard$Needle" "kind" "LNeedleBoard$Kind;", Cond.fieldLink RX2 65 "NeedleBoard$Needle" "value" "J", Cond.fieldLink RX2 62 "NeedleBoard" "moves" "I", Cond.methodLink RX2 51 yX2_needleAt, Cond.instanceMethod yX2_needleAt, Cond.selects RX2 yX2_needleAt yX2_needleAt, Cond.initialized RX2, Cond.code yX2_needleAt cX2_needleAt 3 (some (.object "NeedleBoard$Needle")), Cond.classLink RX2 161 "java/util/NoSuchElementException", Cond.initialized "java/util/NoSuchElementException", Cond.fieldLink RX2 11 "NeedleBoard" "needles" "[LNeedleBoard$Needle;", Cond.methodLink RX2 93 yX0_wholeOf, Cond.instanceMethod yX0_wholeOf, Cond.selects RX0 yX0_wholeOf yX0_wholeOf, Cond.initialized RX0, Cond.code yX0_wholeOf cX0_wholeOf 9 (some .long), Cond.fieldLink RX0 33 "NeedleBoard$Kind" "bias" "I", Cond.fieldLink RX0 29 "NeedleBoard$Kind" "fractionBits" "I", Cond.methodLink RX0 51 yX0_sizeOf, Cond.instanceMethod yX0_sizeOf, Cond.selects RX0 yX0_sizeOf yX0_sizeOf, Cond.code yX0_sizeOf cX0_sizeOf 3 (some .long)]
def wsX2_rest_r2 : List Cond := [Cond.fieldLink RX0 36 "NeedleBoard$Kind" "sideBits" "J", Cond.constantLong RX0 70 (-1), Cond.methodLink RX0 55 yX0_exponentOf, Cond.instanceMethod yX0_exponentOf, Cond.selects RX0 yX0_exponentOf yX0_exponentOf, Cond.code yX0_exponentOf cX0_exponentOf 3 (some .int), Cond.methodLink RX0 92 Lib.Math.max.name, Cond.static Lib.Math.max.name, Cond.initialized "java/lang/Math", Cond.code Lib.Math.max.name Lib.Math.max.code 2 (some .int), Cond.methodLink RX0 85 yX0_wholeOfPart, Cond.instanceMethod yX0_wholeOfPart, Cond.selects RX0 yX0_wholeOfPart yX0_wholeOfPart, Cond.code yX0_wholeOfPart cX0_wholeOfPart 7 (some .long), Cond.fieldLink RX0 43 "NeedleBoard$Kind" "one" "J", Cond.fieldLink RX0 40 "NeedleBoard$Kind" "hiddenBit" "J", Cond.methodLink RX0 112 yX0_growsBy, Cond.static yX0_growsBy, Cond.code yX0_growsBy cX0_growsBy 3 (some .boolean), Cond.methodLink RX0 88 yX0_wholeOfMixed, Cond.instanceMethod yX0_wholeOfMixed, Cond.selects RX0 yX0_wholeOfMixed yX0_wholeOfMixed, Cond.code yX0_wholeOfMixed cX0_wholeOfMixed 14 (some .long), Cond.methodLink RX0 59 yX0_significandOf]
def wsX2_rest_r3 : List Cond := [Cond.instanceMethod yX0_significandOf, Cond.selects RX0 yX0_significandOf yX0_significandOf, Cond.code yX0_significandOf cX0_significandOf 5 (some .long), Cond.methodLink RX0 108 yX0_isRoundedUp, Cond.static yX0_isRoundedUp, Cond.code yX0_isRoundedUp cX0_isRoundedUp 6 (some .boolean), Cond.methodLink RX0 66 yX0_withSideOf, Cond.instanceMethod yX0_withSideOf, Cond.selects RX0 yX0_withSideOf yX0_withSideOf, Cond.code yX0_withSideOf cX0_withSideOf 5 (some .long), Cond.methodLink RX2 58 yX1_moveTo, Cond.instanceMethod yX1_moveTo, Cond.selects RX1 yX1_moveTo yX1_moveTo, Cond.initialized RX1, Cond.code yX1_moveTo cX1_moveTo 3 none, Cond.fieldLink RX1 35 "NeedleBoard$Needle" "value" "J", Cond.fieldLink RX1 7 "NeedleBoard$Needle" "kind" "LNeedleBoard$Kind;", Cond.fieldLink RX1 38 "NeedleBoard$Needle" "highest" "J", Cond.fieldLink RX1 41 "NeedleBoard$Needle" "lowest" "J", Cond.fieldLink RX1 47 "NeedleBoard$Needle" "greatestSize" "J", Cond.methodLink RX1 57 Lib.MathLoose.max_long.x, Cond.static Lib.MathLoose.max_long.x, Cond.code Lib.MathLoose.max_long.x Lib.MathLoose.max_long.code 4 (some .long), Cond.methodLink RX1 31 yX1_withinLimits]
def wsX2_rest_r4 : List Cond := [Cond.instanceMethod yX1_withinLimits, Cond.selects RX1 yX1_withinLimits yX1_withinLimits, Cond.code yX1_withinLimits cX1_withinLimits 3 (some .long), Cond.fieldLink RX1 13 "NeedleBoard$Needle" "low" "J", Cond.fieldLink RX1 17 "NeedleBoard$Needle" "high" "J", Cond.methodLink RX1 50 yX0_greaterOf, Cond.instanceMethod yX0_greaterOf, Cond.selects RX0 yX0_greaterOf yX0_greaterOf, Cond.code yX0_greaterOf cX0_greaterOf 5 (some .long), Cond.methodLink RX0 75 yX0_isBelow, Cond.instanceMethod yX0_isBelow, Cond.selects RX0 yX0_isBelow yX0_isBelow, Cond.code yX0_isBelow cX0_isBelow 5 (some .boolean), Cond.methodLink RX0 72 yX0_rankOf, Cond.instanceMethod yX0_rankOf, Cond.selects RX0 yX0_rankOf yX0_rankOf, Cond.code yX0_rankOf cX0_rankOf 3 (some .long), Cond.methodLink RX1 54 yX0_lesserOf, Cond.instanceMethod yX0_lesserOf, Cond.selects RX0 yX0_lesserOf yX0_lesserOf, Cond.code yX0_lesserOf cX0_lesserOf 5 (some .long), Cond.methodLink RX1 44 yX0_sizeOf]
def wsX2_rest : List Cond := .code yX2_rest cX2_rest 4 (some .long) :: ((wsX2_rest_r1 ++ (wsX2_rest_r2 ++ (wsX2_rest_r3 ++ wsX2_rest_r4))) ++ wsX10 ++ wsX20 ++ (vx_atS RX2 36 "java/lang/IllegalArgumentException" ["java/lang/RuntimeException", "java/lang/Exception"]).filter goodWord ++ ns_atg)
def wsX2_face_r1 : List Cond := [Cond.fieldLink RX2 55 "NeedleBoard$Needle" "kind" "LNeedleBoard$Kind;", Cond.fieldLink RX2 65 "NeedleBoard$Needle" "value" "J", Cond.fieldLink RX2 62 "NeedleBoard" "moves" "I", Cond.methodLink RX2 51 yX2_needleAt, Cond.instanceMethod yX2_needleAt, Cond.selects RX2 yX2_needleAt yX2_needleAt, Cond.initialized RX2, Cond.code yX2_needleAt cX2_needleAt 3 (some (.object "NeedleBoard$Needle")), Cond.classLink RX2 161 "java/util/NoSuchElementException", Cond.initialized "java/util/NoSuchElementException", Cond.fieldLink RX2 11 "NeedleBoard" "needles" "[LNeedleBoard$Needle;", Cond.methodLink RX2 97 yX0_withSideOf, Cond.instanceMethod yX0_withSideOf, Cond.selects RX0 yX0_withSideOf yX0_withSideOf, Cond.initialized RX0, Cond.code yX0_withSideOf cX0_withSideOf 5 (some .long), Cond.fieldLink RX0 36 "NeedleBoard$Kind" "sideBits" "J", Cond.methodLink RX0 51 yX0_sizeOf, Cond.instanceMethod yX0_sizeOf, Cond.selects RX0 yX0_sizeOf yX0_sizeOf, Cond.code yX0_sizeOf cX0_sizeOf 3 (some .long), Cond.constantLong RX0 70 (-1), Cond.methodLink RX2 58 yX1_moveTo, Cond.instanceMethod yX1_moveTo]
def wsX2_face_r2 : List Cond := [Cond.selects RX1 yX1_moveTo yX1_moveTo, Cond.initialized RX1, Cond.code yX1_moveTo cX1_moveTo 3 none, Cond.fieldLink RX1 35 "NeedleBoard$Needle" "value" "J", Cond.fieldLink RX1 7 "NeedleBoard$Needle" "kind" "LNeedleBoard$Kind;", Cond.fieldLink RX1 38 "NeedleBoard$Needle" "highest" "J", Cond.fieldLink RX1 41 "NeedleBoard$Needle" "lowest" "J", Cond.fieldLink RX1 47 "NeedleBoard$Needle" "greatestSize" "J", Cond.methodLink RX1 57 Lib.MathLoose.max_long.x, Cond.static Lib.MathLoose.max_long.x, Cond.initialized "java/lang/Math", Cond.code Lib.MathLoose.max_long.x Lib.MathLoose.max_long.code 4 (some .long), Cond.methodLink RX1 31 yX1_withinLimits, Cond.instanceMethod yX1_withinLimits, Cond.selects RX1 yX1_withinLimits yX1_withinLimits, Cond.code yX1_withinLimits cX1_withinLimits 3 (some .long), Cond.fieldLink RX1 13 "NeedleBoard$Needle" "low" "J", Cond.fieldLink RX1 17 "NeedleBoard$Needle" "high" "J", Cond.methodLink RX1 50 yX0_greaterOf, Cond.instanceMethod yX0_greaterOf, Cond.selects RX0 yX0_greaterOf yX0_greaterOf, Cond.code yX0_greaterOf cX0_greaterOf 5 (some .long), Cond.methodLink RX0 75 yX0_isBelow, Cond.instanceMethod yX0_isBelow]
def wsX2_face_r3 : List Cond := [Cond.selects RX0 yX0_isBelow yX0_isBelow, Cond.code yX0_isBelow cX0_isBelow 5 (some .boolean), Cond.methodLink RX0 72 yX0_rankOf, Cond.instanceMethod yX0_rankOf, Cond.selects RX0 yX0_rankOf yX0_rankOf, Cond.code yX0_rankOf cX0_rankOf 3 (some .long), Cond.methodLink RX1 54 yX0_lesserOf, Cond.instanceMethod yX0_lesserOf, Cond.selects RX0 yX0_lesserOf yX0_lesserOf, Cond.code yX0_lesserOf cX0_lesserOf 5 (some .long), Cond.methodLink RX1 44 yX0_sizeOf]
def wsX2_face : List Cond := .code yX2_face cX2_face 5 (some .long) :: ((wsX2_face_r1 ++ (wsX2_face_r2 ++ wsX2_face_r3)) ++ wsX10 ++ wsX20 ++ ns_atg)
def wsX2_read_r1 : List Cond := [Cond.classLink RX2 32 "java/lang/IllegalArgumentException", Cond.initialized "java/lang/IllegalArgumentException", Cond.fieldLink RX2 65 "NeedleBoard$Needle" "value" "J", Cond.fieldLink RX2 100 "NeedleBoard$Needle" "low" "J", Cond.fieldLink RX2 103 "NeedleBoard$Needle" "high" "J", Cond.fieldLink RX2 106 "NeedleBoard$Needle" "highest" "J", Cond.fieldLink RX2 109 "NeedleBoard$Needle" "lowest" "J", Cond.fieldLink RX2 112 "NeedleBoard$Needle" "greatestSize" "J", Cond.fieldLink RX2 82 "NeedleBoard$Needle" "step" "J", Cond.fieldLink RX2 55 "NeedleBoard$Needle" "kind" "LNeedleBoard$Kind;", Cond.methodLink RX2 51 yX2_needleAt, Cond.instanceMethod yX2_needleAt, Cond.selects RX2 yX2_needleAt yX2_needleAt, Cond.initialized RX2, Cond.code yX2_needleAt cX2_needleAt 3 (some (.object "NeedleBoard$Needle")), Cond.classLink RX2 161 "java/util/NoSuchElementException", Cond.initialized "java/util/NoSuchElementException", Cond.fieldLink RX2 11 "NeedleBoard" "needles" "[LNeedleBoard$Needle;", Cond.methodLink RX2 78 yX0_sizeOf, Cond.instanceMethod yX0_sizeOf, Cond.selects RX0 yX0_sizeOf yX0_sizeOf, Cond.initialized RX0, Cond.code yX0_sizeOf cX0_sizeOf 3 (some .long), Cond.fieldLink RX0 36 "NeedleBoard$Kind" "sideBits" "J"]
def wsX2_read_r2 : List Cond := [Cond.constantLong RX0 70 (-1), Cond.methodLink RX2 115 yX0_unitOf, Cond.instanceMethod yX0_unitOf, Cond.selects RX0 yX0_unitOf yX0_unitOf, Cond.code yX0_unitOf cX0_unitOf 3 (some .long), Cond.fieldLink RX0 43 "NeedleBoard$Kind" "one" "J", Cond.methodLink RX0 51 yX0_sizeOf, Cond.methodLink RX0 66 yX0_withSideOf, Cond.instanceMethod yX0_withSideOf, Cond.selects RX0 yX0_withSideOf yX0_withSideOf, Cond.code yX0_withSideOf cX0_withSideOf 5 (some .long)]
def wsX2_read : List Cond := .code yX2_read cX2_read 4 (some .long) :: ((wsX2_read_r1 ++ wsX2_read_r2) ++ wsX10 ++ wsX20 ++ (vx_atS RX2 36 "java/lang/IllegalArgumentException" ["java/lang/RuntimeException", "java/lang/Exception"]).filter goodWord ++ ns_atg)
def wsX2_between_r1 : List Cond := [Cond.classLink RX2 32 "java/lang/IllegalArgumentException", Cond.initialized "java/lang/IllegalArgumentException", Cond.fieldLink RX2 55 "NeedleBoard$Needle" "kind" "LNeedleBoard$Kind;", Cond.fieldLink RX2 65 "NeedleBoard$Needle" "value" "J", Cond.methodLink RX2 128 Lib.MathLoose.min_long.x, Cond.static Lib.MathLoose.min_long.x, Cond.initialized "java/lang/Math", Cond.code Lib.MathLoose.min_long.x Lib.MathLoose.min_long.code 4 (some .long), Cond.methodLink RX2 133 Lib.MathLoose.max_long.x, Cond.static Lib.MathLoose.max_long.x, Cond.code Lib.MathLoose.max_long.x Lib.MathLoose.max_long.code 4 (some .long), Cond.methodLink RX2 51 yX2_needleAt, Cond.instanceMethod yX2_needleAt, Cond.selects RX2 yX2_needleAt yX2_needleAt, Cond.initialized RX2, Cond.code yX2_needleAt cX2_needleAt 3 (some (.object "NeedleBoard$Needle")), Cond.classLink RX2 161 "java/util/NoSuchElementException", Cond.initialized "java/util/NoSuchElementException", Cond.fieldLink RX2 11 "NeedleBoard" "needles" "[LNeedleBoard$Needle;", Cond.methodLink RX2 122 yX0_lesserOf, Cond.instanceMethod yX0_lesserOf, Cond.selects RX0 yX0_lesserOf yX0_lesserOf, Cond.initialized RX0, Cond.code yX0_lesserOf cX0_lesserOf 5 (some .long)]
def wsX2_between_r2 : List Cond := [Cond.methodLink RX0 75 yX0_isBelow, Cond.instanceMethod yX0_isBelow, Cond.selects RX0 yX0_isBelow yX0_isBelow, Cond.code yX0_isBelow cX0_isBelow 5 (some .boolean), Cond.methodLink RX0 72 yX0_rankOf, Cond.instanceMethod yX0_rankOf, Cond.selects RX0 yX0_rankOf yX0_rankOf, Cond.code yX0_rankOf cX0_rankOf 3 (some .long), Cond.fieldLink RX0 36 "NeedleBoard$Kind" "sideBits" "J", Cond.constantLong RX0 70 (-1), Cond.methodLink RX2 125 yX0_greaterOf, Cond.instanceMethod yX0_greaterOf, Cond.selects RX0 yX0_greaterOf yX0_greaterOf, Cond.code yX0_greaterOf cX0_greaterOf 5 (some .long), Cond.methodLink RX2 78 yX0_sizeOf, Cond.instanceMethod yX0_sizeOf, Cond.selects RX0 yX0_sizeOf yX0_sizeOf, Cond.code yX0_sizeOf cX0_sizeOf 3 (some .long)]
def wsX2_between : List Cond := .code yX2_between cX2_between 7 (some .long) :: ((wsX2_between_r1 ++ wsX2_between_r2) ++ wsX10 ++ wsX20 ++ (vx_atS RX2 36 "java/lang/IllegalArgumentException" ["java/lang/RuntimeException", "java/lang/Exception"]).filter goodWord ++ ns_atg)
def wsX2_order_r1 : List Cond := [Cond.fieldLink RX2 15 "NeedleBoard$Kind" "FINE" "LNeedleBoard$Kind;", Cond.methodLink RX2 51 yX2_needleAt, Cond.instanceMethod yX2_needleAt, Cond.selects RX2 yX2_needleAt yX2_needleAt, Cond.initialized RX2, Cond.code yX2_needleAt cX2_needleAt 3 (some (.object "NeedleBoard$Needle")), Cond.classLink RX2 161 "java/util/NoSuchElementException", Cond.initialized "java/util/NoSuchElementException", Cond.fieldLink RX2 11 "NeedleBoard" "needles" "[LNeedleBoard$Needle;", Cond.methodLink RX2 138 yX1_fineValue, Cond.instanceMethod yX1_fineValue, Cond.selects RX1 yX1_fineValue yX1_fineValue, Cond.initialized RX1, Cond.code yX1_fineValue cX1_fineValue 1 (some .long), Cond.fieldLink RX1 7 "NeedleBoard$Needle" "kind" "LNeedleBoard$Kind;", Cond.fieldLink RX1 75 "NeedleBoard$Kind" "FINE" "LNeedleBoard$Kind;", Cond.fieldLink RX1 35 "NeedleBoard$Needle" "value" "J", Cond.methodLink RX1 78 yX0_fineFromCoarse, Cond.static yX0_fineFromCoarse, Cond.initialized RX0, Cond.code yX0_fineFromCoarse cX0_fineFromCoarse 8 (some .long), Cond.fieldLink RX0 7 "NeedleBoard$Kind" "COARSE" "LNeedleBoard$Kind;", Cond.fieldLink RX0 48 "NeedleBoard$Kind" "infinity" "J", Cond.fieldLink RX0 3 "NeedleBoard$Kind" "FINE" "LNeedleBoard$Kind;"]
def wsX2_order_r2 : List Cond := [Cond.fieldLink RX0 29 "NeedleBoard$Kind" "fractionBits" "I", Cond.fieldLink RX0 33 "NeedleBoard$Kind" "bias" "I", Cond.methodLink RX0 51 yX0_sizeOf, Cond.instanceMethod yX0_sizeOf, Cond.selects RX0 yX0_sizeOf yX0_sizeOf, Cond.code yX0_sizeOf cX0_sizeOf 3 (some .long), Cond.fieldLink RX0 36 "NeedleBoard$Kind" "sideBits" "J", Cond.constantLong RX0 70 (-1), Cond.methodLink RX0 55 yX0_exponentOf, Cond.instanceMethod yX0_exponentOf, Cond.selects RX0 yX0_exponentOf yX0_exponentOf, Cond.code yX0_exponentOf cX0_exponentOf 3 (some .int), Cond.methodLink RX0 92 Lib.Math.max.name, Cond.static Lib.Math.max.name, Cond.initialized "java/lang/Math", Cond.code Lib.Math.max.name Lib.Math.max.code 2 (some .int), Cond.methodLink RX0 59 yX0_significandOf, Cond.instanceMethod yX0_significandOf, Cond.selects RX0 yX0_significandOf yX0_significandOf, Cond.code yX0_significandOf cX0_significandOf 5 (some .long), Cond.fieldLink RX0 40 "NeedleBoard$Kind" "hiddenBit" "J", Cond.methodLink RX0 62 yX0_sizeFrom, Cond.instanceMethod yX0_sizeFrom, Cond.selects RX0 yX0_sizeFrom yX0_sizeFrom]
def wsX2_order_r3 : List Cond := [Cond.code yX0_sizeFrom cX0_sizeFrom 10 (some .long), Cond.methodLink RX0 98 yX0_shiftedDown, Cond.static yX0_shiftedDown, Cond.code yX0_shiftedDown cX0_shiftedDown 5 (some .long), Cond.methodLink RX0 101 yX0_roundedOff, Cond.static yX0_roundedOff, Cond.code yX0_roundedOff cX0_roundedOff 4 (some .long), Cond.constantLong RX0 104 (7), Cond.constantLong RX0 106 (4), Cond.methodLink RX0 108 yX0_isRoundedUp, Cond.static yX0_isRoundedUp, Cond.code yX0_isRoundedUp cX0_isRoundedUp 6 (some .boolean), Cond.methodLink RX0 66 yX0_withSideOf, Cond.instanceMethod yX0_withSideOf, Cond.selects RX0 yX0_withSideOf yX0_withSideOf, Cond.code yX0_withSideOf cX0_withSideOf 5 (some .long), Cond.methodLink RX2 28 yX0_isBelow, Cond.instanceMethod yX0_isBelow, Cond.selects RX0 yX0_isBelow yX0_isBelow, Cond.code yX0_isBelow cX0_isBelow 5 (some .boolean), Cond.methodLink RX0 72 yX0_rankOf, Cond.instanceMethod yX0_rankOf, Cond.selects RX0 yX0_rankOf yX0_rankOf, Cond.code yX0_rankOf cX0_rankOf 3 (some .long)]
def wsX2_order : List Cond := .code yX2_order cX2_order 7 (some .int) :: ((wsX2_order_r1 ++ (wsX2_order_r2 ++ wsX2_order_r3)) ++ wsX20 ++ wsX10 ++ ns_atg)
def wsX2_back_r1 : List Cond := [Cond.methodLink RX2 51 yX2_needleAt, Cond.instanceMethod yX2_needleAt, Cond.selects RX2 yX2_needleAt yX2_needleAt, Cond.initialized RX2, Cond.code yX2_needleAt cX2_needleAt 3 (some (.object "NeedleBoard$Needle")), Cond.classLink RX2 161 "java/util/NoSuchElementException", Cond.initialized "java/util/NoSuchElementException", Cond.fieldLink RX2 11 "NeedleBoard" "needles" "[LNeedleBoard$Needle;", Cond.methodLink RX2 142 yX1_startAgain, Cond.instanceMethod yX1_startAgain, Cond.selects RX1 yX1_startAgain yX1_startAgain, Cond.initialized RX1, Cond.code yX1_startAgain cX1_startAgain 1 none, Cond.fieldLink RX1 35 "NeedleBoard$Needle" "value" "J", Cond.fieldLink RX1 38 "NeedleBoard$Needle" "highest" "J", Cond.fieldLink RX1 41 "NeedleBoard$Needle" "lowest" "J", Cond.fieldLink RX1 7 "NeedleBoard$Needle" "kind" "LNeedleBoard$Kind;", Cond.fieldLink RX1 47 "NeedleBoard$Needle" "greatestSize" "J", Cond.methodLink RX1 31 yX1_withinLimits, Cond.instanceMethod yX1_withinLimits, Cond.selects RX1 yX1_withinLimits yX1_withinLimits, Cond.code yX1_withinLimits cX1_withinLimits 3 (some .long), Cond.fieldLink RX1 13 "NeedleBoard$Needle" "low" "J", Cond.fieldLink RX1 17 "NeedleBoard$Needle" "high" "J"]
def wsX2_back_r2 : List Cond := [Cond.methodLink RX1 50 yX0_greaterOf, Cond.instanceMethod yX0_greaterOf, Cond.selects RX0 yX0_greaterOf yX0_greaterOf, Cond.initialized RX0, Cond.code yX0_greaterOf cX0_greaterOf 5 (some .long), Cond.methodLink RX0 75 yX0_isBelow, Cond.instanceMethod yX0_isBelow, Cond.selects RX0 yX0_isBelow yX0_isBelow, Cond.code yX0_isBelow cX0_isBelow 5 (some .boolean), Cond.methodLink RX0 72 yX0_rankOf, Cond.instanceMethod yX0_rankOf, Cond.selects RX0 yX0_rankOf yX0_rankOf, Cond.code yX0_rankOf cX0_rankOf 3 (some .long), Cond.fieldLink RX0 36 "NeedleBoard$Kind" "sideBits" "J", Cond.constantLong RX0 70 (-1), Cond.methodLink RX1 54 yX0_lesserOf, Cond.instanceMethod yX0_lesserOf, Cond.selects RX0 yX0_lesserOf yX0_lesserOf, Cond.code yX0_lesserOf cX0_lesserOf 5 (some .long), Cond.methodLink RX1 44 yX0_sizeOf, Cond.instanceMethod yX0_sizeOf, Cond.selects RX0 yX0_sizeOf yX0_sizeOf, Cond.code yX0_sizeOf cX0_sizeOf 3 (some .long)]
def wsX2_back : List Cond := .code yX2_back cX2_back 2 none :: ((wsX2_back_r1 ++ wsX2_back_r2) ++ wsX20 ++ wsX10 ++ ns_atg)
def wsX2_tallied : List Cond := .code yX2_tallied cX2_tallied 5 (some .long) :: ([.methodLink RX2 133 Lib.MathLoose.max_long.x, .static Lib.MathLoose.max_long.x, .initialized "java/lang/Math", .code Lib.MathLoose.max_long.x Lib.MathLoose.max_long.code 4 (some .long), .methodLink RX2 128 Lib.MathLoose.min_long.x, .static Lib.MathLoose.min_long.x, .code Lib.MathLoose.min_long.x Lib.MathLoose.min_long.code 4 (some .long), .methodLink RX2 175 Lib.MathLoose.abs_long.x, .static Lib.MathLoose.abs_long.x, .code Lib.MathLoose.abs_long.x Lib.MathLoose.abs_long.code 2 (some .long)])
def wsX2_tally : List Cond := .code yX2_tally cX2_tally 5 (some .long) :: ([.classLink RX2 32 "java/lang/IllegalArgumentException", .initialized "java/lang/IllegalArgumentException", .fieldLink RX2 147 "NeedleBoard" "wideTally" "J", .fieldLink RX2 154 "NeedleBoard" "narrowTally" "I", .methodLink RX2 150 yX2_tallied, .static yX2_tallied, .initialized RX2, .code yX2_tallied cX2_tallied 5 (some .long), .methodLink RX2 133 Lib.MathLoose.max_long.x, .static Lib.MathLoose.max_long.x, .initialized "java/lang/Math", .code Lib.MathLoose.max_long.x Lib.MathLoose.max_long.code 4 (some .long), .methodLink RX2 128 Lib.MathLoose.min_long.x, .static Lib.MathLoose.min_long.x, .code Lib.MathLoose.min_long.x Lib.MathLoose.min_long.code 4 (some .long), .methodLink RX2 175 Lib.MathLoose.abs_long.x, .static Lib.MathLoose.abs_long.x, .code Lib.MathLoose.abs_long.x Lib.MathLoose.abs_long.code 2 (some .long)] ++ wsX20 ++ (vx_atS RX2 36 "java/lang/IllegalArgumentException" ["java/lang/RuntimeException", "java/lang/Exception"]).filter goodWord)
def wsX2_countNeedles : List Cond := .code yX2_countNeedles cX2_countNeedles 7 (some .int) :: ([.fieldLink RX2 11 "NeedleBoard" "needles" "[LNeedleBoard$Needle;", .methodLink RX2 178 yX1_isCounted, .instanceMethod yX1_isCounted, .selects RX1 yX1_isCounted yX1_isCounted, .initialized RX1, .code yX1_isCounted cX1_isCounted 2 (some .boolean), .fieldLink RX1 7 "NeedleBoard$Needle" "kind" "LNeedleBoard$Kind;", .fieldLink RX1 75 "NeedleBoard$Kind" "FINE" "LNeedleBoard$Kind;", .fieldLink RX1 35 "NeedleBoard$Needle" "value" "J", .fieldLink RX1 13 "NeedleBoard$Needle" "low" "J", .fieldLink RX1 17 "NeedleBoard$Needle" "high" "J", .methodLink RX1 44 yX0_sizeOf, .instanceMethod yX0_sizeOf, .selects RX0 yX0_sizeOf yX0_sizeOf, .initialized RX0, .code yX0_sizeOf cX0_sizeOf 3 (some .long), .fieldLink RX0 36 "NeedleBoard$Kind" "sideBits" "J", .constantLong RX0 70 (-1)] ++ wsX20 ++ wsX10)
def wsX2_count_r1 : List Cond := [Cond.fieldLink RX2 39 "NeedleBoard" "made" "I", Cond.fieldLink RX2 62 "NeedleBoard" "moves" "I", Cond.methodLink RX2 157 yX2_countNeedles, Cond.instanceMethod yX2_countNeedles, Cond.selects RX2 yX2_countNeedles yX2_countNeedles, Cond.initialized RX2, Cond.code yX2_countNeedles cX2_countNeedles 7 (some .int), Cond.fieldLink RX2 11 "NeedleBoard" "needles" "[LNeedleBoard$Needle;", Cond.methodLink RX2 178 yX1_isCounted, Cond.instanceMethod yX1_isCounted, Cond.selects RX1 yX1_isCounted yX1_isCounted, Cond.initialized RX1, Cond.code yX1_isCounted cX1_isCounted 2 (some .boolean), Cond.fieldLink RX1 7 "NeedleBoard$Needle" "kind" "LNeedleBoard$Kind;", Cond.fieldLink RX1 75 "NeedleBoard$Kind" "FINE" "LNeedleBoard$Kind;", Cond.fieldLink RX1 35 "NeedleBoard$Needle" "value" "J", Cond.fieldLink RX1 13 "NeedleBoard$Needle" "low" "J", Cond.fieldLink RX1 17 "NeedleBoard$Needle" "high" "J", Cond.methodLink RX1 44 yX0_sizeOf, Cond.instanceMethod yX0_sizeOf, Cond.selects RX0 yX0_sizeOf yX0_sizeOf, Cond.initialized RX0, Cond.code yX0_sizeOf cX0_sizeOf 3 (some .long), Cond.fieldLink RX0 36 "NeedleBoard$Kind" "sideBits" "J"]
def wsX2_count_r2 : List Cond := [Cond.constantLong RX0 70 (-1)]
def wsX2_count : List Cond := .code yX2_count cX2_count 2 (some .int) :: ((wsX2_count_r1 ++ wsX2_count_r2) ++ wsX20 ++ wsX10)
def wsX3_init : List Cond := .code yX3_init cX3_init 1 none :: ([.methodLink RX3 1 objectInit, .instanceMethod objectInit, .code objectInit ⟨#[0xb1]⟩ 1 none, .arrayClass .boolean, .fieldLink RX3 7 "NeedleBoardModel" "isFine" "[Z", .arrayClass .long, .fieldLink RX3 13 "NeedleBoardModel" "cell" "[J"] ++ wsX30)
def wsX3_thrown : List Cond := .code yX3_thrown cX3_thrown 1 (some .int) :: ([.fieldLink RX3 17 "NeedleBoardModel" "thrown" "I"] ++ wsX30)
def wsX3_own : List Cond := .code yX3_own cX3_own 3 (some .long) :: ([])
def wsX3_sizeOf : List Cond := .code yX3_sizeOf cX3_sizeOf 3 (some .long) :: ([.constantLong RX3 21 (9223372036854775807), .constantLong RX3 23 (2147483647)])
def wsX3_isNumber : List Cond := .code yX3_isNumber cX3_isNumber 3 (some .boolean) :: ([.constantLong RX3 29 (9218868437227405312), .constantLong RX3 31 (2139095040), .methodLink RX3 25 yX3_sizeOf, .static yX3_sizeOf, .initialized RX3, .code yX3_sizeOf cX3_sizeOf 3 (some .long), .constantLong RX3 21 (9223372036854775807), .constantLong RX3 23 (2147483647)])
def wsX3_isEndless : List Cond := .code yX3_isEndless cX3_isEndless 3 (some .boolean) :: ([.constantLong RX3 29 (9218868437227405312), .constantLong RX3 31 (2139095040), .methodLink RX3 25 yX3_sizeOf, .static yX3_sizeOf, .initialized RX3, .code yX3_sizeOf cX3_sizeOf 3 (some .long), .constantLong RX3 21 (9223372036854775807), .constantLong RX3 23 (2147483647)])
def wsX3_isNought : List Cond := .code yX3_isNought cX3_isNought 3 (some .boolean) :: ([.methodLink RX3 25 yX3_sizeOf, .static yX3_sizeOf, .initialized RX3, .code yX3_sizeOf cX3_sizeOf 3 (some .long), .constantLong RX3 21 (9223372036854775807), .constantLong RX3 23 (2147483647)])
def wsX3_rank : List Cond := .code yX3_rank cX3_rank 3 (some .long) :: ([.constantLong RX3 33 (-1), .methodLink RX3 25 yX3_sizeOf, .static yX3_sizeOf, .initialized RX3, .code yX3_sizeOf cX3_sizeOf 3 (some .long), .constantLong RX3 21 (9223372036854775807), .constantLong RX3 23 (2147483647)])
def wsX3_sided : List Cond := .code yX3_sided cX3_sided 4 (some .long) :: ([.constantLong RX3 35 (-9223372036854775808), .constantLong RX3 37 (2147483648)])
def wsJxe99ae_isNaN_b9ae7 : List Cond := .code yJxe99ae_isNaN_b9ae7 cJxe99ae_isNaN_b9ae7 2 (some .boolean) :: ([])
def wsJxe99ae_doubleToLongBits_ccdee : List Cond := .code yJxe99ae_doubleToLongBits_ccdee cJxe99ae_doubleToLongBits_ccdee 2 (some .long) :: ([.methodLink RJxe99ae 134 ⟨"java/lang/Double", "doubleToRawLongBits", "(D)J"⟩, .native ⟨"java/lang/Double", "doubleToRawLongBits", "(D)J"⟩, .static ⟨"java/lang/Double", "doubleToRawLongBits", "(D)J"⟩, .initialized "java/lang/Double", .constantLong RJxe99ae 137 (9221120237041090560), .methodLink RJxe99ae 122 yJxe99ae_isNaN_b9ae7, .static yJxe99ae_isNaN_b9ae7, .initialized RJxe99ae, .code yJxe99ae_isNaN_b9ae7 cJxe99ae_isNaN_b9ae7 2 (some .boolean)])
def wsX3_wideBits : List Cond := .code yX3_wideBits cX3_wideBits 3 (some .long) :: ([.methodLink RX3 39 ⟨"java/lang/Float", "intBitsToFloat", "(I)F"⟩, .native ⟨"java/lang/Float", "intBitsToFloat", "(I)F"⟩, .static ⟨"java/lang/Float", "intBitsToFloat", "(I)F"⟩, .initialized "java/lang/Float", .methodLink RX3 45 yJxe99ae_doubleToLongBits_ccdee, .static yJxe99ae_doubleToLongBits_ccdee, .initialized RJxe99ae, .code yJxe99ae_doubleToLongBits_ccdee cJxe99ae_doubleToLongBits_ccdee 2 (some .long), .methodLink RJxe99ae 134 ⟨"java/lang/Double", "doubleToRawLongBits", "(D)J"⟩, .native ⟨"java/lang/Double", "doubleToRawLongBits", "(D)J"⟩, .static ⟨"java/lang/Double", "doubleToRawLongBits", "(D)J"⟩, .initialized "java/lang/Double", .constantLong RJxe99ae 137 (9221120237041090560), .methodLink RJxe99ae 122 yJxe99ae_isNaN_b9ae7, .static yJxe99ae_isNaN_b9ae7, .code yJxe99ae_isNaN_b9ae7 cJxe99ae_isNaN_b9ae7 2 (some .boolean)])
def wsJxf58ca_isNaN_12338 : List Cond := .code yJxf58ca_isNaN_12338 cJxf58ca_isNaN_12338 1 (some .boolean) :: ([])
def wsJxf58ca_floatToIntBits_5c35a : List Cond := .code yJxf58ca_floatToIntBits_5c35a cJxf58ca_floatToIntBits_5c35a 1 (some .int) :: ([.methodLink RJxf58ca 74 ⟨"java/lang/Float", "floatToRawIntBits", "(F)I"⟩, .native ⟨"java/lang/Float", "floatToRawIntBits", "(F)I"⟩, .static ⟨"java/lang/Float", "floatToRawIntBits", "(F)I"⟩, .initialized "java/lang/Float", .constant RJxf58ca 77 (2143289344), .methodLink RJxf58ca 59 yJxf58ca_isNaN_12338, .static yJxf58ca_isNaN_12338, .initialized RJxf58ca, .code yJxf58ca_isNaN_12338 cJxf58ca_isNaN_12338 1 (some .boolean)])
def wsX3_sum_r1 : List Cond := [Cond.methodLink RX3 51 ⟨"java/lang/Double", "longBitsToDouble", "(J)D"⟩, Cond.native ⟨"java/lang/Double", "longBitsToDouble", "(J)D"⟩, Cond.static ⟨"java/lang/Double", "longBitsToDouble", "(J)D"⟩, Cond.initialized "java/lang/Double", Cond.methodLink RX3 39 ⟨"java/lang/Float", "intBitsToFloat", "(I)F"⟩, Cond.native ⟨"java/lang/Float", "intBitsToFloat", "(I)F"⟩, Cond.static ⟨"java/lang/Float", "intBitsToFloat", "(I)F"⟩, Cond.initialized "java/lang/Float", Cond.methodLink RX3 45 yJxe99ae_doubleToLongBits_ccdee, Cond.static yJxe99ae_doubleToLongBits_ccdee, Cond.initialized RJxe99ae, Cond.code yJxe99ae_doubleToLongBits_ccdee cJxe99ae_doubleToLongBits_ccdee 2 (some .long), Cond.methodLink RJxe99ae 134 ⟨"java/lang/Double", "doubleToRawLongBits", "(D)J"⟩, Cond.native ⟨"java/lang/Double", "doubleToRawLongBits", "(D)J"⟩, Cond.static ⟨"java/lang/Double", "doubleToRawLongBits", "(D)J"⟩, Cond.constantLong RJxe99ae 137 (9221120237041090560), Cond.methodLink RJxe99ae 122 yJxe99ae_isNaN_b9ae7, Cond.static yJxe99ae_isNaN_b9ae7, Cond.code yJxe99ae_isNaN_b9ae7 cJxe99ae_isNaN_b9ae7 2 (some .boolean), Cond.methodLink RX3 55 yJxf58ca_floatToIntBits_5c35a, Cond.static yJxf58ca_floatToIntBits_5c35a, Cond.initialized RJxf58ca, Cond.code yJxf58ca_floatToIntBits_5c35a cJxf58ca_floatToIntBits_5c35a 1 (some .int), Cond.methodLink RJxf58ca 74 ⟨"java/lang/Float", "floatToRawIntBits", "(F)I"⟩]
def wsX3_sum_r2 : List Cond := [Cond.native ⟨"java/lang/Float", "floatToRawIntBits", "(F)I"⟩, Cond.static ⟨"java/lang/Float", "floatToRawIntBits", "(F)I"⟩, Cond.constant RJxf58ca 77 (2143289344), Cond.methodLink RJxf58ca 59 yJxf58ca_isNaN_12338, Cond.static yJxf58ca_isNaN_12338, Cond.code yJxf58ca_isNaN_12338 cJxf58ca_isNaN_12338 1 (some .boolean)]
def wsX3_sum : List Cond := .code yX3_sum cX3_sum 5 (some .long) :: ((wsX3_sum_r1 ++ wsX3_sum_r2))
def wsX3_turned : List Cond := .code yX3_turned cX3_turned 3 (some .long) :: ([.methodLink RX3 25 yX3_sizeOf, .static yX3_sizeOf, .initialized RX3, .code yX3_sizeOf cX3_sizeOf 3 (some .long), .constantLong RX3 21 (9223372036854775807), .constantLong RX3 23 (2147483647), .methodLink RX3 59 yX3_sided, .static yX3_sided, .code yX3_sided cX3_sided 4 (some .long), .constantLong RX3 35 (-9223372036854775808), .constantLong RX3 37 (2147483648)])
def wsX3_alike : List Cond := .code yX3_alike cX3_alike 5 (some .boolean) :: ([.methodLink RX3 63 yX3_isNought, .static yX3_isNought, .initialized RX3, .code yX3_isNought cX3_isNought 3 (some .boolean), .methodLink RX3 25 yX3_sizeOf, .static yX3_sizeOf, .code yX3_sizeOf cX3_sizeOf 3 (some .long), .constantLong RX3 21 (9223372036854775807), .constantLong RX3 23 (2147483647)])
def wsX3_isThere : List Cond := .code yX3_isThere cX3_isThere 2 (some .boolean) :: ([.fieldLink RX3 67 "NeedleBoardModel" "needles" "I", .fieldLink RX3 17 "NeedleBoardModel" "thrown" "I"] ++ wsX30)
def wsX3_may : List Cond := .code yX3_may cX3_may 4 (some .boolean) :: ([.fieldLink RX3 7 "NeedleBoardModel" "isFine" "[Z", .fieldLink RX3 17 "NeedleBoardModel" "thrown" "I", .methodLink RX3 70 yX3_isThere, .instanceMethod yX3_isThere, .selects RX3 yX3_isThere yX3_isThere, .initialized RX3, .code yX3_isThere cX3_isThere 2 (some .boolean), .fieldLink RX3 67 "NeedleBoardModel" "needles" "I", .methodLink RX3 74 yX3_isNumber, .static yX3_isNumber, .code yX3_isNumber cX3_isNumber 3 (some .boolean), .constantLong RX3 29 (9218868437227405312), .constantLong RX3 31 (2139095040), .methodLink RX3 25 yX3_sizeOf, .static yX3_sizeOf, .code yX3_sizeOf cX3_sizeOf 3 (some .long), .constantLong RX3 21 (9223372036854775807), .constantLong RX3 23 (2147483647)] ++ wsX30)
def wsX3_get : List Cond := .code yX3_get cX3_get 3 (some .long) :: ([.fieldLink RX3 13 "NeedleBoardModel" "cell" "[J"] ++ wsX30)
def wsX3_set : List Cond := .code yX3_set cX3_set 5 none :: ([.fieldLink RX3 13 "NeedleBoardModel" "cell" "[J"] ++ wsX30)
def wsX3_within : List Cond := .code yX3_within cX3_within 5 (some .long) :: ([.fieldLink RX3 7 "NeedleBoardModel" "isFine" "[Z", .methodLink RX3 77 yX3_rank, .static yX3_rank, .initialized RX3, .code yX3_rank cX3_rank 3 (some .long), .constantLong RX3 33 (-1), .methodLink RX3 25 yX3_sizeOf, .static yX3_sizeOf, .code yX3_sizeOf cX3_sizeOf 3 (some .long), .constantLong RX3 21 (9223372036854775807), .constantLong RX3 23 (2147483647), .methodLink RX3 80 yX3_get, .instanceMethod yX3_get, .selects RX3 yX3_get yX3_get, .code yX3_get cX3_get 3 (some .long), .fieldLink RX3 13 "NeedleBoardModel" "cell" "[J"] ++ wsX30)
def wsX3_fresh : List Cond := .code yX3_fresh cX3_fresh 4 none :: ([.fieldLink RX3 7 "NeedleBoardModel" "isFine" "[Z", .methodLink RX3 84 yX3_within, .instanceMethod yX3_within, .selects RX3 yX3_within yX3_within, .initialized RX3, .code yX3_within cX3_within 5 (some .long), .methodLink RX3 77 yX3_rank, .static yX3_rank, .code yX3_rank cX3_rank 3 (some .long), .constantLong RX3 33 (-1), .methodLink RX3 25 yX3_sizeOf, .static yX3_sizeOf, .code yX3_sizeOf cX3_sizeOf 3 (some .long), .constantLong RX3 21 (9223372036854775807), .constantLong RX3 23 (2147483647), .methodLink RX3 80 yX3_get, .instanceMethod yX3_get, .selects RX3 yX3_get yX3_get, .code yX3_get cX3_get 3 (some .long), .fieldLink RX3 13 "NeedleBoardModel" "cell" "[J", .methodLink RX3 88 yX3_set, .instanceMethod yX3_set, .selects RX3 yX3_set yX3_set, .code yX3_set cX3_set 5 none] ++ wsX30)
def wsX3_becomes_r1 : List Cond := [Cond.fieldLink RX3 7 "NeedleBoardModel" "isFine" "[Z", Cond.fieldLink RX3 92 "NeedleBoardModel" "calls" "I", Cond.methodLink RX3 84 yX3_within, Cond.instanceMethod yX3_within, Cond.selects RX3 yX3_within yX3_within, Cond.initialized RX3, Cond.code yX3_within cX3_within 5 (some .long), Cond.methodLink RX3 77 yX3_rank, Cond.static yX3_rank, Cond.code yX3_rank cX3_rank 3 (some .long), Cond.constantLong RX3 33 (-1), Cond.methodLink RX3 25 yX3_sizeOf, Cond.static yX3_sizeOf, Cond.code yX3_sizeOf cX3_sizeOf 3 (some .long), Cond.constantLong RX3 21 (9223372036854775807), Cond.constantLong RX3 23 (2147483647), Cond.methodLink RX3 80 yX3_get, Cond.instanceMethod yX3_get, Cond.selects RX3 yX3_get yX3_get, Cond.code yX3_get cX3_get 3 (some .long), Cond.fieldLink RX3 13 "NeedleBoardModel" "cell" "[J", Cond.methodLink RX3 88 yX3_set, Cond.instanceMethod yX3_set, Cond.selects RX3 yX3_set yX3_set]
def wsX3_becomes_r2 : List Cond := [Cond.code yX3_set cX3_set 5 none]
def wsX3_becomes : List Cond := .code yX3_becomes cX3_becomes 7 (some .long) :: ((wsX3_becomes_r1 ++ wsX3_becomes_r2) ++ wsX30)
def wsX3_needle_r1 : List Cond := [Cond.fieldLink RX3 67 "NeedleBoardModel" "needles" "I", Cond.fieldLink RX3 17 "NeedleBoardModel" "thrown" "I", Cond.fieldLink RX3 7 "NeedleBoardModel" "isFine" "[Z", Cond.constantLong RX3 29 (9218868437227405312), Cond.constantLong RX3 31 (2139095040), Cond.methodLink RX3 95 yX3_own, Cond.static yX3_own, Cond.initialized RX3, Cond.code yX3_own cX3_own 3 (some .long), Cond.methodLink RX3 74 yX3_isNumber, Cond.static yX3_isNumber, Cond.code yX3_isNumber cX3_isNumber 3 (some .boolean), Cond.methodLink RX3 25 yX3_sizeOf, Cond.static yX3_sizeOf, Cond.code yX3_sizeOf cX3_sizeOf 3 (some .long), Cond.constantLong RX3 21 (9223372036854775807), Cond.constantLong RX3 23 (2147483647), Cond.methodLink RX3 77 yX3_rank, Cond.static yX3_rank, Cond.code yX3_rank cX3_rank 3 (some .long), Cond.constantLong RX3 33 (-1), Cond.methodLink RX3 88 yX3_set, Cond.instanceMethod yX3_set, Cond.selects RX3 yX3_set yX3_set]
def wsX3_needle_r2 : List Cond := [Cond.code yX3_set cX3_set 5 none, Cond.fieldLink RX3 13 "NeedleBoardModel" "cell" "[J", Cond.methodLink RX3 98 yX3_fresh, Cond.instanceMethod yX3_fresh, Cond.selects RX3 yX3_fresh yX3_fresh, Cond.code yX3_fresh cX3_fresh 4 none, Cond.methodLink RX3 84 yX3_within, Cond.instanceMethod yX3_within, Cond.selects RX3 yX3_within yX3_within, Cond.code yX3_within cX3_within 5 (some .long), Cond.methodLink RX3 80 yX3_get, Cond.instanceMethod yX3_get, Cond.selects RX3 yX3_get yX3_get, Cond.code yX3_get cX3_get 3 (some .long)]
def wsX3_needle : List Cond := .code yX3_needle cX3_needle 11 (some .int) :: ((wsX3_needle_r1 ++ wsX3_needle_r2) ++ wsX30)
def wsX3_put_r1 : List Cond := [Cond.fieldLink RX3 7 "NeedleBoardModel" "isFine" "[Z", Cond.methodLink RX3 102 yX3_may, Cond.instanceMethod yX3_may, Cond.selects RX3 yX3_may yX3_may, Cond.initialized RX3, Cond.code yX3_may cX3_may 4 (some .boolean), Cond.fieldLink RX3 17 "NeedleBoardModel" "thrown" "I", Cond.methodLink RX3 70 yX3_isThere, Cond.instanceMethod yX3_isThere, Cond.selects RX3 yX3_isThere yX3_isThere, Cond.code yX3_isThere cX3_isThere 2 (some .boolean), Cond.fieldLink RX3 67 "NeedleBoardModel" "needles" "I", Cond.methodLink RX3 74 yX3_isNumber, Cond.static yX3_isNumber, Cond.code yX3_isNumber cX3_isNumber 3 (some .boolean), Cond.constantLong RX3 29 (9218868437227405312), Cond.constantLong RX3 31 (2139095040), Cond.methodLink RX3 25 yX3_sizeOf, Cond.static yX3_sizeOf, Cond.code yX3_sizeOf cX3_sizeOf 3 (some .long), Cond.constantLong RX3 21 (9223372036854775807), Cond.constantLong RX3 23 (2147483647), Cond.methodLink RX3 95 yX3_own, Cond.static yX3_own]
def wsX3_put_r2 : List Cond := [Cond.code yX3_own cX3_own 3 (some .long), Cond.methodLink RX3 106 yX3_becomes, Cond.instanceMethod yX3_becomes, Cond.selects RX3 yX3_becomes yX3_becomes, Cond.code yX3_becomes cX3_becomes 7 (some .long), Cond.fieldLink RX3 92 "NeedleBoardModel" "calls" "I", Cond.methodLink RX3 84 yX3_within, Cond.instanceMethod yX3_within, Cond.selects RX3 yX3_within yX3_within, Cond.code yX3_within cX3_within 5 (some .long), Cond.methodLink RX3 77 yX3_rank, Cond.static yX3_rank, Cond.code yX3_rank cX3_rank 3 (some .long), Cond.constantLong RX3 33 (-1), Cond.methodLink RX3 80 yX3_get, Cond.instanceMethod yX3_get, Cond.selects RX3 yX3_get yX3_get, Cond.code yX3_get cX3_get 3 (some .long), Cond.fieldLink RX3 13 "NeedleBoardModel" "cell" "[J", Cond.methodLink RX3 88 yX3_set, Cond.instanceMethod yX3_set, Cond.selects RX3 yX3_set yX3_set, Cond.code yX3_set cX3_set 5 none]
def wsX3_put : List Cond := .code yX3_put cX3_put 4 (some .long) :: ((wsX3_put_r1 ++ wsX3_put_r2) ++ wsX30)
def wsX3_turn_r1 : List Cond := [Cond.fieldLink RX3 7 "NeedleBoardModel" "isFine" "[Z", Cond.fieldLink RX3 17 "NeedleBoardModel" "thrown" "I", Cond.methodLink RX3 102 yX3_may, Cond.instanceMethod yX3_may, Cond.selects RX3 yX3_may yX3_may, Cond.initialized RX3, Cond.code yX3_may cX3_may 4 (some .boolean), Cond.methodLink RX3 70 yX3_isThere, Cond.instanceMethod yX3_isThere, Cond.selects RX3 yX3_isThere yX3_isThere, Cond.code yX3_isThere cX3_isThere 2 (some .boolean), Cond.fieldLink RX3 67 "NeedleBoardModel" "needles" "I", Cond.methodLink RX3 74 yX3_isNumber, Cond.static yX3_isNumber, Cond.code yX3_isNumber cX3_isNumber 3 (some .boolean), Cond.constantLong RX3 29 (9218868437227405312), Cond.constantLong RX3 31 (2139095040), Cond.methodLink RX3 25 yX3_sizeOf, Cond.static yX3_sizeOf, Cond.code yX3_sizeOf cX3_sizeOf 3 (some .long), Cond.constantLong RX3 21 (9223372036854775807), Cond.constantLong RX3 23 (2147483647), Cond.methodLink RX3 95 yX3_own, Cond.static yX3_own]
def wsX3_turn_r2 : List Cond := [Cond.code yX3_own cX3_own 3 (some .long), Cond.methodLink RX3 80 yX3_get, Cond.instanceMethod yX3_get, Cond.selects RX3 yX3_get yX3_get, Cond.code yX3_get cX3_get 3 (some .long), Cond.fieldLink RX3 13 "NeedleBoardModel" "cell" "[J", Cond.methodLink RX3 109 yX3_isEndless, Cond.static yX3_isEndless, Cond.code yX3_isEndless cX3_isEndless 3 (some .boolean), Cond.methodLink RX3 112 yX3_sum, Cond.static yX3_sum, Cond.code yX3_sum cX3_sum 5 (some .long), Cond.methodLink RX3 51 ⟨"java/lang/Double", "longBitsToDouble", "(J)D"⟩, Cond.native ⟨"java/lang/Double", "longBitsToDouble", "(J)D"⟩, Cond.static ⟨"java/lang/Double", "longBitsToDouble", "(J)D"⟩, Cond.initialized "java/lang/Double", Cond.methodLink RX3 39 ⟨"java/lang/Float", "intBitsToFloat", "(I)F"⟩, Cond.native ⟨"java/lang/Float", "intBitsToFloat", "(I)F"⟩, Cond.static ⟨"java/lang/Float", "intBitsToFloat", "(I)F"⟩, Cond.initialized "java/lang/Float", Cond.methodLink RX3 45 yJxe99ae_doubleToLongBits_ccdee, Cond.static yJxe99ae_doubleToLongBits_ccdee, Cond.initialized RJxe99ae, Cond.code yJxe99ae_doubleToLongBits_ccdee cJxe99ae_doubleToLongBits_ccdee 2 (some .long)]
def wsX3_turn_r3 : List Cond := [Cond.methodLink RJxe99ae 134 ⟨"java/lang/Double", "doubleToRawLongBits", "(D)J"⟩, Cond.native ⟨"java/lang/Double", "doubleToRawLongBits", "(D)J"⟩, Cond.static ⟨"java/lang/Double", "doubleToRawLongBits", "(D)J"⟩, Cond.constantLong RJxe99ae 137 (9221120237041090560), Cond.methodLink RJxe99ae 122 yJxe99ae_isNaN_b9ae7, Cond.static yJxe99ae_isNaN_b9ae7, Cond.code yJxe99ae_isNaN_b9ae7 cJxe99ae_isNaN_b9ae7 2 (some .boolean), Cond.methodLink RX3 55 yJxf58ca_floatToIntBits_5c35a, Cond.static yJxf58ca_floatToIntBits_5c35a, Cond.initialized RJxf58ca, Cond.code yJxf58ca_floatToIntBits_5c35a cJxf58ca_floatToIntBits_5c35a 1 (some .int), Cond.methodLink RJxf58ca 74 ⟨"java/lang/Float", "floatToRawIntBits", "(F)I"⟩, Cond.native ⟨"java/lang/Float", "floatToRawIntBits", "(F)I"⟩, Cond.static ⟨"java/lang/Float", "floatToRawIntBits", "(F)I"⟩, Cond.constant RJxf58ca 77 (2143289344), Cond.methodLink RJxf58ca 59 yJxf58ca_isNaN_12338, Cond.static yJxf58ca_isNaN_12338, Cond.code yJxf58ca_isNaN_12338 cJxf58ca_isNaN_12338 1 (some .boolean), Cond.methodLink RX3 106 yX3_becomes, Cond.instanceMethod yX3_becomes, Cond.selects RX3 yX3_becomes yX3_becomes, Cond.code yX3_becomes cX3_becomes 7 (some .long), Cond.fieldLink RX3 92 "NeedleBoardModel" "calls" "I", Cond.methodLink RX3 84 yX3_within]
def wsX3_turn_r4 : List Cond := [Cond.instanceMethod yX3_within, Cond.selects RX3 yX3_within yX3_within, Cond.code yX3_within cX3_within 5 (some .long), Cond.methodLink RX3 77 yX3_rank, Cond.static yX3_rank, Cond.code yX3_rank cX3_rank 3 (some .long), Cond.constantLong RX3 33 (-1), Cond.methodLink RX3 88 yX3_set, Cond.instanceMethod yX3_set, Cond.selects RX3 yX3_set yX3_set, Cond.code yX3_set cX3_set 5 none]
def wsX3_turn : List Cond := .code yX3_turn cX3_turn 9 (some .long) :: ((wsX3_turn_r1 ++ (wsX3_turn_r2 ++ (wsX3_turn_r3 ++ wsX3_turn_r4))) ++ wsX30)
def wsX3_damp_r1 : List Cond := [Cond.fieldLink RX3 7 "NeedleBoardModel" "isFine" "[Z", Cond.methodLink RX3 102 yX3_may, Cond.instanceMethod yX3_may, Cond.selects RX3 yX3_may yX3_may, Cond.initialized RX3, Cond.code yX3_may cX3_may 4 (some .boolean), Cond.fieldLink RX3 17 "NeedleBoardModel" "thrown" "I", Cond.methodLink RX3 70 yX3_isThere, Cond.instanceMethod yX3_isThere, Cond.selects RX3 yX3_isThere yX3_isThere, Cond.code yX3_isThere cX3_isThere 2 (some .boolean), Cond.fieldLink RX3 67 "NeedleBoardModel" "needles" "I", Cond.methodLink RX3 74 yX3_isNumber, Cond.static yX3_isNumber, Cond.code yX3_isNumber cX3_isNumber 3 (some .boolean), Cond.constantLong RX3 29 (9218868437227405312), Cond.constantLong RX3 31 (2139095040), Cond.methodLink RX3 25 yX3_sizeOf, Cond.static yX3_sizeOf, Cond.code yX3_sizeOf cX3_sizeOf 3 (some .long), Cond.constantLong RX3 21 (9223372036854775807), Cond.constantLong RX3 23 (2147483647), Cond.methodLink RX3 88 yX3_set, Cond.instanceMethod yX3_set]
def wsX3_damp_r2 : List Cond := [Cond.selects RX3 yX3_set yX3_set, Cond.code yX3_set cX3_set 5 none, Cond.fieldLink RX3 13 "NeedleBoardModel" "cell" "[J", Cond.methodLink RX3 80 yX3_get, Cond.instanceMethod yX3_get, Cond.selects RX3 yX3_get yX3_get, Cond.code yX3_get cX3_get 3 (some .long)]
def wsX3_damp : List Cond := .code yX3_damp cX3_damp 4 (some .long) :: ((wsX3_damp_r1 ++ wsX3_damp_r2) ++ wsX30)
def wsX3_pull_r1 : List Cond := [Cond.fieldLink RX3 7 "NeedleBoardModel" "isFine" "[Z", Cond.methodLink RX3 102 yX3_may, Cond.instanceMethod yX3_may, Cond.selects RX3 yX3_may yX3_may, Cond.initialized RX3, Cond.code yX3_may cX3_may 4 (some .boolean), Cond.fieldLink RX3 17 "NeedleBoardModel" "thrown" "I", Cond.methodLink RX3 70 yX3_isThere, Cond.instanceMethod yX3_isThere, Cond.selects RX3 yX3_isThere yX3_isThere, Cond.code yX3_isThere cX3_isThere 2 (some .boolean), Cond.fieldLink RX3 67 "NeedleBoardModel" "needles" "I", Cond.methodLink RX3 74 yX3_isNumber, Cond.static yX3_isNumber, Cond.code yX3_isNumber cX3_isNumber 3 (some .boolean), Cond.constantLong RX3 29 (9218868437227405312), Cond.constantLong RX3 31 (2139095040), Cond.methodLink RX3 25 yX3_sizeOf, Cond.static yX3_sizeOf, Cond.code yX3_sizeOf cX3_sizeOf 3 (some .long), Cond.constantLong RX3 21 (9223372036854775807), Cond.constantLong RX3 23 (2147483647), Cond.methodLink RX3 95 yX3_own, Cond.static yX3_own]
def wsX3_pull_r2 : List Cond := [Cond.code yX3_own cX3_own 3 (some .long), Cond.methodLink RX3 80 yX3_get, Cond.instanceMethod yX3_get, Cond.selects RX3 yX3_get yX3_get, Cond.code yX3_get cX3_get 3 (some .long), Cond.fieldLink RX3 13 "NeedleBoardModel" "cell" "[J", Cond.methodLink RX3 116 yX3_alike, Cond.static yX3_alike, Cond.code yX3_alike cX3_alike 5 (some .boolean), Cond.methodLink RX3 63 yX3_isNought, Cond.static yX3_isNought, Cond.code yX3_isNought cX3_isNought 3 (some .boolean), Cond.methodLink RX3 120 yX3_turned, Cond.static yX3_turned, Cond.code yX3_turned cX3_turned 3 (some .long), Cond.methodLink RX3 59 yX3_sided, Cond.static yX3_sided, Cond.code yX3_sided cX3_sided 4 (some .long), Cond.constantLong RX3 35 (-9223372036854775808), Cond.constantLong RX3 37 (2147483648), Cond.methodLink RX3 112 yX3_sum, Cond.static yX3_sum, Cond.code yX3_sum cX3_sum 5 (some .long), Cond.methodLink RX3 51 ⟨"java/lang/Double", "longBitsToDouble", "(J)D"⟩]
def wsX3_pull_r3 : List Cond := [Cond.native ⟨"java/lang/Double", "longBitsToDouble", "(J)D"⟩, Cond.static ⟨"java/lang/Double", "longBitsToDouble", "(J)D"⟩, Cond.initialized "java/lang/Double", Cond.methodLink RX3 39 ⟨"java/lang/Float", "intBitsToFloat", "(I)F"⟩, Cond.native ⟨"java/lang/Float", "intBitsToFloat", "(I)F"⟩, Cond.static ⟨"java/lang/Float", "intBitsToFloat", "(I)F"⟩, Cond.initialized "java/lang/Float", Cond.methodLink RX3 45 yJxe99ae_doubleToLongBits_ccdee, Cond.static yJxe99ae_doubleToLongBits_ccdee, Cond.initialized RJxe99ae, Cond.code yJxe99ae_doubleToLongBits_ccdee cJxe99ae_doubleToLongBits_ccdee 2 (some .long), Cond.methodLink RJxe99ae 134 ⟨"java/lang/Double", "doubleToRawLongBits", "(D)J"⟩, Cond.native ⟨"java/lang/Double", "doubleToRawLongBits", "(D)J"⟩, Cond.static ⟨"java/lang/Double", "doubleToRawLongBits", "(D)J"⟩, Cond.constantLong RJxe99ae 137 (9221120237041090560), Cond.methodLink RJxe99ae 122 yJxe99ae_isNaN_b9ae7, Cond.static yJxe99ae_isNaN_b9ae7, Cond.code yJxe99ae_isNaN_b9ae7 cJxe99ae_isNaN_b9ae7 2 (some .boolean), Cond.methodLink RX3 55 yJxf58ca_floatToIntBits_5c35a, Cond.static yJxf58ca_floatToIntBits_5c35a, Cond.initialized RJxf58ca, Cond.code yJxf58ca_floatToIntBits_5c35a cJxf58ca_floatToIntBits_5c35a 1 (some .int), Cond.methodLink RJxf58ca 74 ⟨"java/lang/Float", "floatToRawIntBits", "(F)I"⟩, Cond.native ⟨"java/lang/Float", "floatToRawIntBits", "(F)I"⟩]
def wsX3_pull_r4 : List Cond := [Cond.static ⟨"java/lang/Float", "floatToRawIntBits", "(F)I"⟩, Cond.constant RJxf58ca 77 (2143289344), Cond.methodLink RJxf58ca 59 yJxf58ca_isNaN_12338, Cond.static yJxf58ca_isNaN_12338, Cond.code yJxf58ca_isNaN_12338 cJxf58ca_isNaN_12338 1 (some .boolean), Cond.methodLink RX3 106 yX3_becomes, Cond.instanceMethod yX3_becomes, Cond.selects RX3 yX3_becomes yX3_becomes, Cond.code yX3_becomes cX3_becomes 7 (some .long), Cond.fieldLink RX3 92 "NeedleBoardModel" "calls" "I", Cond.methodLink RX3 84 yX3_within, Cond.instanceMethod yX3_within, Cond.selects RX3 yX3_within yX3_within, Cond.code yX3_within cX3_within 5 (some .long), Cond.methodLink RX3 77 yX3_rank, Cond.static yX3_rank, Cond.code yX3_rank cX3_rank 3 (some .long), Cond.constantLong RX3 33 (-1), Cond.methodLink RX3 88 yX3_set, Cond.instanceMethod yX3_set, Cond.selects RX3 yX3_set yX3_set, Cond.code yX3_set cX3_set 5 none]
def wsX3_pull : List Cond := .code yX3_pull cX3_pull 13 (some .boolean) :: ((wsX3_pull_r1 ++ (wsX3_pull_r2 ++ (wsX3_pull_r3 ++ wsX3_pull_r4))) ++ wsX30)
def wsX3_whole : List Cond := .code yX3_whole cX3_whole 9 (some .double) :: ([.constantDouble RX3 123 (4841369599423283200), .constantDouble RX3 125 (4602678819172646912)])
def wsX3_rest_r1 : List Cond := [Cond.fieldLink RX3 17 "NeedleBoardModel" "thrown" "I", Cond.fieldLink RX3 7 "NeedleBoardModel" "isFine" "[Z", Cond.methodLink RX3 51 ⟨"java/lang/Double", "longBitsToDouble", "(J)D"⟩, Cond.native ⟨"java/lang/Double", "longBitsToDouble", "(J)D"⟩, Cond.static ⟨"java/lang/Double", "longBitsToDouble", "(J)D"⟩, Cond.initialized "java/lang/Double", Cond.methodLink RX3 39 ⟨"java/lang/Float", "intBitsToFloat", "(I)F"⟩, Cond.native ⟨"java/lang/Float", "intBitsToFloat", "(I)F"⟩, Cond.static ⟨"java/lang/Float", "intBitsToFloat", "(I)F"⟩, Cond.initialized "java/lang/Float", Cond.methodLink RX3 70 yX3_isThere, Cond.instanceMethod yX3_isThere, Cond.selects RX3 yX3_isThere yX3_isThere, Cond.initialized RX3, Cond.code yX3_isThere cX3_isThere 2 (some .boolean), Cond.fieldLink RX3 67 "NeedleBoardModel" "needles" "I", Cond.methodLink RX3 80 yX3_get, Cond.instanceMethod yX3_get, Cond.selects RX3 yX3_get yX3_get, Cond.code yX3_get cX3_get 3 (some .long), Cond.fieldLink RX3 13 "NeedleBoardModel" "cell" "[J", Cond.methodLink RX3 25 yX3_sizeOf, Cond.static yX3_sizeOf, Cond.code yX3_sizeOf cX3_sizeOf 3 (some .long)]
def wsX3_rest_r2 : List Cond := [Cond.constantLong RX3 21 (9223372036854775807), Cond.constantLong RX3 23 (2147483647), Cond.methodLink RX3 127 yX3_whole, Cond.static yX3_whole, Cond.code yX3_whole cX3_whole 9 (some .double), Cond.constantDouble RX3 123 (4841369599423283200), Cond.constantDouble RX3 125 (4602678819172646912), Cond.methodLink RX3 45 yJxe99ae_doubleToLongBits_ccdee, Cond.static yJxe99ae_doubleToLongBits_ccdee, Cond.initialized RJxe99ae, Cond.code yJxe99ae_doubleToLongBits_ccdee cJxe99ae_doubleToLongBits_ccdee 2 (some .long), Cond.methodLink RJxe99ae 134 ⟨"java/lang/Double", "doubleToRawLongBits", "(D)J"⟩, Cond.native ⟨"java/lang/Double", "doubleToRawLongBits", "(D)J"⟩, Cond.static ⟨"java/lang/Double", "doubleToRawLongBits", "(D)J"⟩, Cond.constantLong RJxe99ae 137 (9221120237041090560), Cond.methodLink RJxe99ae 122 yJxe99ae_isNaN_b9ae7, Cond.static yJxe99ae_isNaN_b9ae7, Cond.code yJxe99ae_isNaN_b9ae7 cJxe99ae_isNaN_b9ae7 2 (some .boolean), Cond.methodLink RX3 55 yJxf58ca_floatToIntBits_5c35a, Cond.static yJxf58ca_floatToIntBits_5c35a, Cond.initialized RJxf58ca, Cond.code yJxf58ca_floatToIntBits_5c35a cJxf58ca_floatToIntBits_5c35a 1 (some .int), Cond.methodLink RJxf58ca 74 ⟨"java/lang/Float", "floatToRawIntBits", "(F)I"⟩, Cond.native ⟨"java/lang/Float", "floatToRawIntBits", "(F)I"⟩]
def wsX3_rest_r3 : List Cond := [Cond.static ⟨"java/lang/Float", "floatToRawIntBits", "(F)I"⟩, Cond.constant RJxf58ca 77 (2143289344), Cond.methodLink RJxf58ca 59 yJxf58ca_isNaN_12338, Cond.static yJxf58ca_isNaN_12338, Cond.code yJxf58ca_isNaN_12338 cJxf58ca_isNaN_12338 1 (some .boolean), Cond.methodLink RX3 59 yX3_sided, Cond.static yX3_sided, Cond.code yX3_sided cX3_sided 4 (some .long), Cond.constantLong RX3 35 (-9223372036854775808), Cond.constantLong RX3 37 (2147483648), Cond.methodLink RX3 106 yX3_becomes, Cond.instanceMethod yX3_becomes, Cond.selects RX3 yX3_becomes yX3_becomes, Cond.code yX3_becomes cX3_becomes 7 (some .long), Cond.fieldLink RX3 92 "NeedleBoardModel" "calls" "I", Cond.methodLink RX3 84 yX3_within, Cond.instanceMethod yX3_within, Cond.selects RX3 yX3_within yX3_within, Cond.code yX3_within cX3_within 5 (some .long), Cond.methodLink RX3 77 yX3_rank, Cond.static yX3_rank, Cond.code yX3_rank cX3_rank 3 (some .long), Cond.constantLong RX3 33 (-1), Cond.methodLink RX3 88 yX3_set]
def wsX3_rest_r4 : List Cond := [Cond.instanceMethod yX3_set, Cond.selects RX3 yX3_set yX3_set, Cond.code yX3_set cX3_set 5 none]
def wsX3_rest : List Cond := .code yX3_rest cX3_rest 10 (some .long) :: ((wsX3_rest_r1 ++ (wsX3_rest_r2 ++ (wsX3_rest_r3 ++ wsX3_rest_r4))) ++ wsX30)
def wsX3_face_r1 : List Cond := [Cond.fieldLink RX3 7 "NeedleBoardModel" "isFine" "[Z", Cond.methodLink RX3 70 yX3_isThere, Cond.instanceMethod yX3_isThere, Cond.selects RX3 yX3_isThere yX3_isThere, Cond.initialized RX3, Cond.code yX3_isThere cX3_isThere 2 (some .boolean), Cond.fieldLink RX3 67 "NeedleBoardModel" "needles" "I", Cond.fieldLink RX3 17 "NeedleBoardModel" "thrown" "I", Cond.methodLink RX3 80 yX3_get, Cond.instanceMethod yX3_get, Cond.selects RX3 yX3_get yX3_get, Cond.code yX3_get cX3_get 3 (some .long), Cond.fieldLink RX3 13 "NeedleBoardModel" "cell" "[J", Cond.methodLink RX3 25 yX3_sizeOf, Cond.static yX3_sizeOf, Cond.code yX3_sizeOf cX3_sizeOf 3 (some .long), Cond.constantLong RX3 21 (9223372036854775807), Cond.constantLong RX3 23 (2147483647), Cond.methodLink RX3 59 yX3_sided, Cond.static yX3_sided, Cond.code yX3_sided cX3_sided 4 (some .long), Cond.constantLong RX3 35 (-9223372036854775808), Cond.constantLong RX3 37 (2147483648), Cond.methodLink RX3 106 yX3_becomes]
def wsX3_face_r2 : List Cond := [Cond.instanceMethod yX3_becomes, Cond.selects RX3 yX3_becomes yX3_becomes, Cond.code yX3_becomes cX3_becomes 7 (some .long), Cond.fieldLink RX3 92 "NeedleBoardModel" "calls" "I", Cond.methodLink RX3 84 yX3_within, Cond.instanceMethod yX3_within, Cond.selects RX3 yX3_within yX3_within, Cond.code yX3_within cX3_within 5 (some .long), Cond.methodLink RX3 77 yX3_rank, Cond.static yX3_rank, Cond.code yX3_rank cX3_rank 3 (some .long), Cond.constantLong RX3 33 (-1), Cond.methodLink RX3 88 yX3_set, Cond.instanceMethod yX3_set, Cond.selects RX3 yX3_set yX3_set, Cond.code yX3_set cX3_set 5 none]
def wsX3_face : List Cond := .code yX3_face cX3_face 4 (some .long) :: ((wsX3_face_r1 ++ wsX3_face_r2) ++ wsX30)
def wsX3_read_r1 : List Cond := [Cond.fieldLink RX3 17 "NeedleBoardModel" "thrown" "I", Cond.fieldLink RX3 7 "NeedleBoardModel" "isFine" "[Z", Cond.constantLong RX3 131 (4607182418800017408), Cond.constantLong RX3 133 (1065353216), Cond.methodLink RX3 70 yX3_isThere, Cond.instanceMethod yX3_isThere, Cond.selects RX3 yX3_isThere yX3_isThere, Cond.initialized RX3, Cond.code yX3_isThere cX3_isThere 2 (some .boolean), Cond.fieldLink RX3 67 "NeedleBoardModel" "needles" "I", Cond.methodLink RX3 80 yX3_get, Cond.instanceMethod yX3_get, Cond.selects RX3 yX3_get yX3_get, Cond.code yX3_get cX3_get 3 (some .long), Cond.fieldLink RX3 13 "NeedleBoardModel" "cell" "[J", Cond.methodLink RX3 25 yX3_sizeOf, Cond.static yX3_sizeOf, Cond.code yX3_sizeOf cX3_sizeOf 3 (some .long), Cond.constantLong RX3 21 (9223372036854775807), Cond.constantLong RX3 23 (2147483647), Cond.methodLink RX3 63 yX3_isNought, Cond.static yX3_isNought, Cond.code yX3_isNought cX3_isNought 3 (some .boolean), Cond.methodLink RX3 59 yX3_sided]
def wsX3_read_r2 : List Cond := [Cond.static yX3_sided, Cond.code yX3_sided cX3_sided 4 (some .long), Cond.constantLong RX3 35 (-9223372036854775808), Cond.constantLong RX3 37 (2147483648)]
def wsX3_read : List Cond := .code yX3_read cX3_read 6 (some .long) :: ((wsX3_read_r1 ++ wsX3_read_r2) ++ wsX30)
def wsX3_between : List Cond := .code yX3_between cX3_between 14 (some .long) :: ([.fieldLink RX3 7 "NeedleBoardModel" "isFine" "[Z", .fieldLink RX3 17 "NeedleBoardModel" "thrown" "I", .methodLink RX3 70 yX3_isThere, .instanceMethod yX3_isThere, .selects RX3 yX3_isThere yX3_isThere, .initialized RX3, .code yX3_isThere cX3_isThere 2 (some .boolean), .fieldLink RX3 67 "NeedleBoardModel" "needles" "I", .methodLink RX3 80 yX3_get, .instanceMethod yX3_get, .selects RX3 yX3_get yX3_get, .code yX3_get cX3_get 3 (some .long), .fieldLink RX3 13 "NeedleBoardModel" "cell" "[J", .methodLink RX3 25 yX3_sizeOf, .static yX3_sizeOf, .code yX3_sizeOf cX3_sizeOf 3 (some .long), .constantLong RX3 21 (9223372036854775807), .constantLong RX3 23 (2147483647), .methodLink RX3 77 yX3_rank, .static yX3_rank, .code yX3_rank cX3_rank 3 (some .long), .constantLong RX3 33 (-1)] ++ wsX30)
def wsX3_order_r1 : List Cond := [Cond.fieldLink RX3 7 "NeedleBoardModel" "isFine" "[Z", Cond.methodLink RX3 70 yX3_isThere, Cond.instanceMethod yX3_isThere, Cond.selects RX3 yX3_isThere yX3_isThere, Cond.initialized RX3, Cond.code yX3_isThere cX3_isThere 2 (some .boolean), Cond.fieldLink RX3 67 "NeedleBoardModel" "needles" "I", Cond.fieldLink RX3 17 "NeedleBoardModel" "thrown" "I", Cond.methodLink RX3 80 yX3_get, Cond.instanceMethod yX3_get, Cond.selects RX3 yX3_get yX3_get, Cond.code yX3_get cX3_get 3 (some .long), Cond.fieldLink RX3 13 "NeedleBoardModel" "cell" "[J", Cond.methodLink RX3 135 yX3_wideBits, Cond.static yX3_wideBits, Cond.code yX3_wideBits cX3_wideBits 3 (some .long), Cond.methodLink RX3 39 ⟨"java/lang/Float", "intBitsToFloat", "(I)F"⟩, Cond.native ⟨"java/lang/Float", "intBitsToFloat", "(I)F"⟩, Cond.static ⟨"java/lang/Float", "intBitsToFloat", "(I)F"⟩, Cond.initialized "java/lang/Float", Cond.methodLink RX3 45 yJxe99ae_doubleToLongBits_ccdee, Cond.static yJxe99ae_doubleToLongBits_ccdee, Cond.initialized RJxe99ae, Cond.code yJxe99ae_doubleToLongBits_ccdee cJxe99ae_doubleToLongBits_ccdee 2 (some .long)]
def wsX3_order_r2 : List Cond := [Cond.methodLink RJxe99ae 134 ⟨"java/lang/Double", "doubleToRawLongBits", "(D)J"⟩, Cond.native ⟨"java/lang/Double", "doubleToRawLongBits", "(D)J"⟩, Cond.static ⟨"java/lang/Double", "doubleToRawLongBits", "(D)J"⟩, Cond.initialized "java/lang/Double", Cond.constantLong RJxe99ae 137 (9221120237041090560), Cond.methodLink RJxe99ae 122 yJxe99ae_isNaN_b9ae7, Cond.static yJxe99ae_isNaN_b9ae7, Cond.code yJxe99ae_isNaN_b9ae7 cJxe99ae_isNaN_b9ae7 2 (some .boolean), Cond.methodLink RX3 77 yX3_rank, Cond.static yX3_rank, Cond.code yX3_rank cX3_rank 3 (some .long), Cond.constantLong RX3 33 (-1), Cond.methodLink RX3 25 yX3_sizeOf, Cond.static yX3_sizeOf, Cond.code yX3_sizeOf cX3_sizeOf 3 (some .long), Cond.constantLong RX3 21 (9223372036854775807), Cond.constantLong RX3 23 (2147483647)]
def wsX3_order : List Cond := .code yX3_order cX3_order 7 (some .int) :: ((wsX3_order_r1 ++ wsX3_order_r2) ++ wsX30)
def wsX3_back_r1 : List Cond := [Cond.methodLink RX3 70 yX3_isThere, Cond.instanceMethod yX3_isThere, Cond.selects RX3 yX3_isThere yX3_isThere, Cond.initialized RX3, Cond.code yX3_isThere cX3_isThere 2 (some .boolean), Cond.fieldLink RX3 67 "NeedleBoardModel" "needles" "I", Cond.fieldLink RX3 17 "NeedleBoardModel" "thrown" "I", Cond.methodLink RX3 98 yX3_fresh, Cond.instanceMethod yX3_fresh, Cond.selects RX3 yX3_fresh yX3_fresh, Cond.code yX3_fresh cX3_fresh 4 none, Cond.fieldLink RX3 7 "NeedleBoardModel" "isFine" "[Z", Cond.methodLink RX3 84 yX3_within, Cond.instanceMethod yX3_within, Cond.selects RX3 yX3_within yX3_within, Cond.code yX3_within cX3_within 5 (some .long), Cond.methodLink RX3 77 yX3_rank, Cond.static yX3_rank, Cond.code yX3_rank cX3_rank 3 (some .long), Cond.constantLong RX3 33 (-1), Cond.methodLink RX3 25 yX3_sizeOf, Cond.static yX3_sizeOf, Cond.code yX3_sizeOf cX3_sizeOf 3 (some .long), Cond.constantLong RX3 21 (9223372036854775807)]
def wsX3_back_r2 : List Cond := [Cond.constantLong RX3 23 (2147483647), Cond.methodLink RX3 80 yX3_get, Cond.instanceMethod yX3_get, Cond.selects RX3 yX3_get yX3_get, Cond.code yX3_get cX3_get 3 (some .long), Cond.fieldLink RX3 13 "NeedleBoardModel" "cell" "[J", Cond.methodLink RX3 88 yX3_set, Cond.instanceMethod yX3_set, Cond.selects RX3 yX3_set yX3_set, Cond.code yX3_set cX3_set 5 none]
def wsX3_back : List Cond := .code yX3_back cX3_back 2 none :: ((wsX3_back_r1 ++ wsX3_back_r2) ++ wsX30)
def wsX3_grown : List Cond := .code yX3_grown cX3_grown 7 (some .long) :: ([])
def wsX3_tally : List Cond := .code yX3_tally cX3_tally 5 (some .long) :: ([.fieldLink RX3 17 "NeedleBoardModel" "thrown" "I", .fieldLink RX3 138 "NeedleBoardModel" "wide" "J", .fieldLink RX3 146 "NeedleBoardModel" "narrow" "I", .methodLink RX3 142 yX3_grown, .static yX3_grown, .initialized RX3, .code yX3_grown cX3_grown 7 (some .long)] ++ wsX30)
def wsX3_count : List Cond := .code yX3_count cX3_count 7 (some .int) :: ([.fieldLink RX3 17 "NeedleBoardModel" "thrown" "I", .fieldLink RX3 67 "NeedleBoardModel" "needles" "I", .fieldLink RX3 92 "NeedleBoardModel" "calls" "I", .fieldLink RX3 7 "NeedleBoardModel" "isFine" "[Z", .methodLink RX3 80 yX3_get, .instanceMethod yX3_get, .selects RX3 yX3_get yX3_get, .initialized RX3, .code yX3_get cX3_get 3 (some .long), .fieldLink RX3 13 "NeedleBoardModel" "cell" "[J", .methodLink RX3 63 yX3_isNought, .static yX3_isNought, .code yX3_isNought cX3_isNought 3 (some .boolean), .methodLink RX3 25 yX3_sizeOf, .static yX3_sizeOf, .code yX3_sizeOf cX3_sizeOf 3 (some .long), .constantLong RX3 21 (9223372036854775807), .constantLong RX3 23 (2147483647)] ++ wsX30)
def wsJ9_abs_067f4 : List Cond := .code yJ9_abs_067f4 cJ9_abs_067f4 2 (some .long) :: ([])
def wsJ9_max_7cf53 : List Cond := .code yJ9_max_7cf53 cJ9_max_7cf53 2 (some .int) :: ([])
def wsJ9_max_f86c9 : List Cond := .code yJ9_max_f86c9 cJ9_max_f86c9 4 (some .long) :: ([])
def wsJ9_min_f86c9 : List Cond := .code yJ9_min_f86c9 cJ9_min_f86c9 4 (some .long) :: ([])
def wsL_needle_r1 : List Cond := [Cond.classLink RL 13 "java/lang/IllegalArgumentException", Cond.classLink RL 15 "java/lang/IllegalStateException", Cond.methodLink RL 7 yX2_needle, Cond.instanceMethod yX2_needle, Cond.selects RX2 yX2_needle yX2_needle, Cond.initialized RX2, Cond.code yX2_needle cX2_needle 11 (some .int), Cond.classLink RX2 32 "java/lang/IllegalArgumentException", Cond.initialized "java/lang/IllegalArgumentException", Cond.classLink RX2 43 "java/lang/IllegalStateException", Cond.initialized "java/lang/IllegalStateException", Cond.fieldLink RX2 15 "NeedleBoard$Kind" "FINE" "LNeedleBoard$Kind;", Cond.fieldLink RX2 21 "NeedleBoard$Kind" "COARSE" "LNeedleBoard$Kind;", Cond.fieldLink RX2 39 "NeedleBoard" "made" "I", Cond.fieldLink RX2 11 "NeedleBoard" "needles" "[LNeedleBoard$Needle;", Cond.classLink RX2 9 RX1, Cond.instantiable RX1 8, Cond.initialized RX1, Cond.methodLink RX2 24 yX2_numberFrom, Cond.static yX2_numberFrom, Cond.code yX2_numberFrom cX2_numberFrom 5 (some .long), Cond.methodLink RX2 166 yX0_trimmed, Cond.instanceMethod yX0_trimmed, Cond.selects RX0 yX0_trimmed yX0_trimmed]
def wsL_needle_r2 : List Cond := [Cond.initialized RX0, Cond.code yX0_trimmed cX0_trimmed 3 (some .long), Cond.fieldLink RX0 7 "NeedleBoard$Kind" "COARSE" "LNeedleBoard$Kind;", Cond.methodLink RX2 169 yX0_isNumber, Cond.instanceMethod yX0_isNumber, Cond.selects RX0 yX0_isNumber yX0_isNumber, Cond.code yX0_isNumber cX0_isNumber 3 (some .boolean), Cond.fieldLink RX0 48 "NeedleBoard$Kind" "infinity" "J", Cond.methodLink RX0 51 yX0_sizeOf, Cond.instanceMethod yX0_sizeOf, Cond.selects RX0 yX0_sizeOf yX0_sizeOf, Cond.code yX0_sizeOf cX0_sizeOf 3 (some .long), Cond.fieldLink RX0 36 "NeedleBoard$Kind" "sideBits" "J", Cond.constantLong RX0 70 (-1), Cond.methodLink RX2 28 yX0_isBelow, Cond.instanceMethod yX0_isBelow, Cond.selects RX0 yX0_isBelow yX0_isBelow, Cond.code yX0_isBelow cX0_isBelow 5 (some .boolean), Cond.methodLink RX0 72 yX0_rankOf, Cond.instanceMethod yX0_rankOf, Cond.selects RX0 yX0_rankOf yX0_rankOf, Cond.code yX0_rankOf cX0_rankOf 3 (some .long), Cond.methodLink RX2 48 yX1_init, Cond.instanceMethod yX1_init]
def wsL_needle_r3 : List Cond := [Cond.code yX1_init cX1_init 6 none, Cond.methodLink RX1 1 objectInit, Cond.instanceMethod objectInit, Cond.code objectInit ⟨#[0xb1]⟩ 1 none, Cond.fieldLink RX1 7 "NeedleBoard$Needle" "kind" "LNeedleBoard$Kind;", Cond.fieldLink RX1 13 "NeedleBoard$Needle" "low" "J", Cond.fieldLink RX1 17 "NeedleBoard$Needle" "high" "J", Cond.fieldLink RX1 20 "NeedleBoard$Kind" "infinity" "J", Cond.fieldLink RX1 25 "NeedleBoard$Needle" "step" "J", Cond.methodLink RX1 28 yX1_startAgain, Cond.instanceMethod yX1_startAgain, Cond.selects RX1 yX1_startAgain yX1_startAgain, Cond.code yX1_startAgain cX1_startAgain 1 none, Cond.fieldLink RX1 35 "NeedleBoard$Needle" "value" "J", Cond.fieldLink RX1 38 "NeedleBoard$Needle" "highest" "J", Cond.fieldLink RX1 41 "NeedleBoard$Needle" "lowest" "J", Cond.fieldLink RX1 47 "NeedleBoard$Needle" "greatestSize" "J", Cond.methodLink RX1 31 yX1_withinLimits, Cond.instanceMethod yX1_withinLimits, Cond.selects RX1 yX1_withinLimits yX1_withinLimits, Cond.code yX1_withinLimits cX1_withinLimits 3 (some .long), Cond.methodLink RX1 50 yX0_greaterOf, Cond.instanceMethod yX0_greaterOf, Cond.selects RX0 yX0_greaterOf yX0_greaterOf]
def wsL_needle_r4 : List Cond := [Cond.code yX0_greaterOf cX0_greaterOf 5 (some .long), Cond.methodLink RX0 75 yX0_isBelow, Cond.methodLink RX1 54 yX0_lesserOf, Cond.instanceMethod yX0_lesserOf, Cond.selects RX0 yX0_lesserOf yX0_lesserOf, Cond.code yX0_lesserOf cX0_lesserOf 5 (some .long), Cond.methodLink RX1 44 yX0_sizeOf]
def wsL_needle : List Cond := .codeWith yL_needle cL_needle 8 (some .int) [(0, 13, 16, 13), (0, 13, 20, 15)] :: ((wsL_needle_r1 ++ (wsL_needle_r2 ++ (wsL_needle_r3 ++ wsL_needle_r4))) ++ wsX20 ++ wsX10 ++ (vx_atS RX2 36 "java/lang/IllegalArgumentException" ["java/lang/RuntimeException", "java/lang/Exception"]).filter goodWord ++ (vx_atS RX2 47 "java/lang/IllegalStateException" ["java/lang/RuntimeException", "java/lang/Exception"]).filter goodWord)
def wsL_put_r1 : List Cond := [Cond.classLink RL 21 "java/util/NoSuchElementException", Cond.classLink RL 13 "java/lang/IllegalArgumentException", Cond.methodLink RL 17 yX2_put, Cond.instanceMethod yX2_put, Cond.selects RX2 yX2_put yX2_put, Cond.initialized RX2, Cond.code yX2_put cX2_put 5 (some .long), Cond.fieldLink RX2 55 "NeedleBoard$Needle" "kind" "LNeedleBoard$Kind;", Cond.fieldLink RX2 62 "NeedleBoard" "moves" "I", Cond.fieldLink RX2 65 "NeedleBoard$Needle" "value" "J", Cond.methodLink RX2 51 yX2_needleAt, Cond.instanceMethod yX2_needleAt, Cond.selects RX2 yX2_needleAt yX2_needleAt, Cond.code yX2_needleAt cX2_needleAt 3 (some (.object "NeedleBoard$Needle")), Cond.classLink RX2 161 "java/util/NoSuchElementException", Cond.initialized "java/util/NoSuchElementException", Cond.fieldLink RX2 11 "NeedleBoard" "needles" "[LNeedleBoard$Needle;", Cond.methodLink RX2 24 yX2_numberFrom, Cond.static yX2_numberFrom, Cond.code yX2_numberFrom cX2_numberFrom 5 (some .long), Cond.classLink RX2 32 "java/lang/IllegalArgumentException", Cond.initialized "java/lang/IllegalArgumentException", Cond.methodLink RX2 166 yX0_trimmed, Cond.instanceMethod yX0_trimmed]
def wsL_put_r2 : List Cond := [Cond.selects RX0 yX0_trimmed yX0_trimmed, Cond.initialized RX0, Cond.code yX0_trimmed cX0_trimmed 3 (some .long), Cond.fieldLink RX0 7 "NeedleBoard$Kind" "COARSE" "LNeedleBoard$Kind;", Cond.methodLink RX2 169 yX0_isNumber, Cond.instanceMethod yX0_isNumber, Cond.selects RX0 yX0_isNumber yX0_isNumber, Cond.code yX0_isNumber cX0_isNumber 3 (some .boolean), Cond.fieldLink RX0 48 "NeedleBoard$Kind" "infinity" "J", Cond.methodLink RX0 51 yX0_sizeOf, Cond.instanceMethod yX0_sizeOf, Cond.selects RX0 yX0_sizeOf yX0_sizeOf, Cond.code yX0_sizeOf cX0_sizeOf 3 (some .long), Cond.fieldLink RX0 36 "NeedleBoard$Kind" "sideBits" "J", Cond.constantLong RX0 70 (-1), Cond.methodLink RX2 58 yX1_moveTo, Cond.instanceMethod yX1_moveTo, Cond.selects RX1 yX1_moveTo yX1_moveTo, Cond.initialized RX1, Cond.code yX1_moveTo cX1_moveTo 3 none, Cond.fieldLink RX1 35 "NeedleBoard$Needle" "value" "J", Cond.fieldLink RX1 7 "NeedleBoard$Needle" "kind" "LNeedleBoard$Kind;", Cond.fieldLink RX1 38 "NeedleBoard$Needle" "highest" "J", Cond.fieldLink RX1 41 "NeedleBoard$Needle" "lowest" "J"]
def wsL_put_r3 : List Cond := [Cond.fieldLink RX1 47 "NeedleBoard$Needle" "greatestSize" "J", Cond.methodLink RX1 57 Lib.MathLoose.max_long.x, Cond.static Lib.MathLoose.max_long.x, Cond.initialized "java/lang/Math", Cond.code Lib.MathLoose.max_long.x Lib.MathLoose.max_long.code 4 (some .long), Cond.methodLink RX1 31 yX1_withinLimits, Cond.instanceMethod yX1_withinLimits, Cond.selects RX1 yX1_withinLimits yX1_withinLimits, Cond.code yX1_withinLimits cX1_withinLimits 3 (some .long), Cond.fieldLink RX1 13 "NeedleBoard$Needle" "low" "J", Cond.fieldLink RX1 17 "NeedleBoard$Needle" "high" "J", Cond.methodLink RX1 50 yX0_greaterOf, Cond.instanceMethod yX0_greaterOf, Cond.selects RX0 yX0_greaterOf yX0_greaterOf, Cond.code yX0_greaterOf cX0_greaterOf 5 (some .long), Cond.methodLink RX0 75 yX0_isBelow, Cond.instanceMethod yX0_isBelow, Cond.selects RX0 yX0_isBelow yX0_isBelow, Cond.code yX0_isBelow cX0_isBelow 5 (some .boolean), Cond.methodLink RX0 72 yX0_rankOf, Cond.instanceMethod yX0_rankOf, Cond.selects RX0 yX0_rankOf yX0_rankOf, Cond.code yX0_rankOf cX0_rankOf 3 (some .long), Cond.methodLink RX1 54 yX0_lesserOf]
def wsL_put_r4 : List Cond := [Cond.instanceMethod yX0_lesserOf, Cond.selects RX0 yX0_lesserOf yX0_lesserOf, Cond.code yX0_lesserOf cX0_lesserOf 5 (some .long), Cond.methodLink RX1 44 yX0_sizeOf]
def wsL_put : List Cond := .codeWith yL_put cL_put 6 (some .int) [(0, 10, 13, 21), (0, 10, 17, 13)] :: ((wsL_put_r1 ++ (wsL_put_r2 ++ (wsL_put_r3 ++ wsL_put_r4))) ++ wsX10 ++ wsX20 ++ ns_atg ++ (vx_atS RX2 36 "java/lang/IllegalArgumentException" ["java/lang/RuntimeException", "java/lang/Exception"]).filter goodWord)
def wsL_turn_r1 : List Cond := [Cond.classLink RL 21 "java/util/NoSuchElementException", Cond.classLink RL 13 "java/lang/IllegalArgumentException", Cond.classLink RL 15 "java/lang/IllegalStateException", Cond.methodLink RL 23 yX2_turn, Cond.instanceMethod yX2_turn, Cond.selects RX2 yX2_turn yX2_turn, Cond.initialized RX2, Cond.code yX2_turn cX2_turn 7 (some .long), Cond.classLink RX2 43 "java/lang/IllegalStateException", Cond.initialized "java/lang/IllegalStateException", Cond.fieldLink RX2 55 "NeedleBoard$Needle" "kind" "LNeedleBoard$Kind;", Cond.fieldLink RX2 65 "NeedleBoard$Needle" "value" "J", Cond.fieldLink RX2 62 "NeedleBoard" "moves" "I", Cond.methodLink RX2 51 yX2_needleAt, Cond.instanceMethod yX2_needleAt, Cond.selects RX2 yX2_needleAt yX2_needleAt, Cond.code yX2_needleAt cX2_needleAt 3 (some (.object "NeedleBoard$Needle")), Cond.classLink RX2 161 "java/util/NoSuchElementException", Cond.initialized "java/util/NoSuchElementException", Cond.fieldLink RX2 11 "NeedleBoard" "needles" "[LNeedleBoard$Needle;", Cond.methodLink RX2 24 yX2_numberFrom, Cond.static yX2_numberFrom, Cond.code yX2_numberFrom cX2_numberFrom 5 (some .long), Cond.classLink RX2 32 "java/lang/IllegalArgumentException"]
def wsL_turn_r2 : List Cond := [Cond.initialized "java/lang/IllegalArgumentException", Cond.methodLink RX2 166 yX0_trimmed, Cond.instanceMethod yX0_trimmed, Cond.selects RX0 yX0_trimmed yX0_trimmed, Cond.initialized RX0, Cond.code yX0_trimmed cX0_trimmed 3 (some .long), Cond.fieldLink RX0 7 "NeedleBoard$Kind" "COARSE" "LNeedleBoard$Kind;", Cond.methodLink RX2 169 yX0_isNumber, Cond.instanceMethod yX0_isNumber, Cond.selects RX0 yX0_isNumber yX0_isNumber, Cond.code yX0_isNumber cX0_isNumber 3 (some .boolean), Cond.fieldLink RX0 48 "NeedleBoard$Kind" "infinity" "J", Cond.methodLink RX0 51 yX0_sizeOf, Cond.instanceMethod yX0_sizeOf, Cond.selects RX0 yX0_sizeOf yX0_sizeOf, Cond.code yX0_sizeOf cX0_sizeOf 3 (some .long), Cond.fieldLink RX0 36 "NeedleBoard$Kind" "sideBits" "J", Cond.constantLong RX0 70 (-1), Cond.methodLink RX2 69 yX0_areOppositeInfinities, Cond.instanceMethod yX0_areOppositeInfinities, Cond.selects RX0 yX0_areOppositeInfinities yX0_areOppositeInfinities, Cond.code yX0_areOppositeInfinities cX0_areOppositeInfinities 5 (some .boolean), Cond.methodLink RX0 79 yX0_negated, Cond.instanceMethod yX0_negated]
def wsL_turn_r3 : List Cond := [Cond.selects RX0 yX0_negated yX0_negated, Cond.code yX0_negated cX0_negated 3 (some .long), Cond.methodLink RX2 74 yX0_sum, Cond.instanceMethod yX0_sum, Cond.selects RX0 yX0_sum yX0_sum, Cond.code yX0_sum cX0_sum 5 (some .long), Cond.methodLink RX0 82 yX0_sumByLarger, Cond.instanceMethod yX0_sumByLarger, Cond.selects RX0 yX0_sumByLarger yX0_sumByLarger, Cond.code yX0_sumByLarger cX0_sumByLarger 17 (some .long), Cond.methodLink RX0 55 yX0_exponentOf, Cond.instanceMethod yX0_exponentOf, Cond.selects RX0 yX0_exponentOf yX0_exponentOf, Cond.code yX0_exponentOf cX0_exponentOf 3 (some .int), Cond.fieldLink RX0 29 "NeedleBoard$Kind" "fractionBits" "I", Cond.methodLink RX0 92 Lib.Math.max.name, Cond.static Lib.Math.max.name, Cond.initialized "java/lang/Math", Cond.code Lib.Math.max.name Lib.Math.max.code 2 (some .int), Cond.methodLink RX0 59 yX0_significandOf, Cond.instanceMethod yX0_significandOf, Cond.selects RX0 yX0_significandOf yX0_significandOf, Cond.code yX0_significandOf cX0_significandOf 5 (some .long), Cond.fieldLink RX0 40 "NeedleBoard$Kind" "hiddenBit" "J"]
def wsL_turn_r4 : List Cond := [Cond.methodLink RX0 98 yX0_shiftedDown, Cond.static yX0_shiftedDown, Cond.code yX0_shiftedDown cX0_shiftedDown 5 (some .long), Cond.methodLink RX0 62 yX0_sizeFrom, Cond.instanceMethod yX0_sizeFrom, Cond.selects RX0 yX0_sizeFrom yX0_sizeFrom, Cond.code yX0_sizeFrom cX0_sizeFrom 10 (some .long), Cond.fieldLink RX0 33 "NeedleBoard$Kind" "bias" "I", Cond.methodLink RX0 101 yX0_roundedOff, Cond.static yX0_roundedOff, Cond.code yX0_roundedOff cX0_roundedOff 4 (some .long), Cond.constantLong RX0 104 (7), Cond.constantLong RX0 106 (4), Cond.methodLink RX0 108 yX0_isRoundedUp, Cond.static yX0_isRoundedUp, Cond.code yX0_isRoundedUp cX0_isRoundedUp 6 (some .boolean), Cond.methodLink RX0 66 yX0_withSideOf, Cond.instanceMethod yX0_withSideOf, Cond.selects RX0 yX0_withSideOf yX0_withSideOf, Cond.code yX0_withSideOf cX0_withSideOf 5 (some .long), Cond.methodLink RX2 58 yX1_moveTo, Cond.instanceMethod yX1_moveTo, Cond.selects RX1 yX1_moveTo yX1_moveTo, Cond.initialized RX1]
def wsL_turn_r5 : List Cond := [Cond.code yX1_moveTo cX1_moveTo 3 none, Cond.fieldLink RX1 35 "NeedleBoard$Needle" "value" "J", Cond.fieldLink RX1 7 "NeedleBoard$Needle" "kind" "LNeedleBoard$Kind;", Cond.fieldLink RX1 38 "NeedleBoard$Needle" "highest" "J", Cond.fieldLink RX1 41 "NeedleBoard$Needle" "lowest" "J", Cond.fieldLink RX1 47 "NeedleBoard$Needle" "greatestSize" "J", Cond.methodLink RX1 57 Lib.MathLoose.max_long.x, Cond.static Lib.MathLoose.max_long.x, Cond.code Lib.MathLoose.max_long.x Lib.MathLoose.max_long.code 4 (some .long), Cond.methodLink RX1 31 yX1_withinLimits, Cond.instanceMethod yX1_withinLimits, Cond.selects RX1 yX1_withinLimits yX1_withinLimits, Cond.code yX1_withinLimits cX1_withinLimits 3 (some .long), Cond.fieldLink RX1 13 "NeedleBoard$Needle" "low" "J", Cond.fieldLink RX1 17 "NeedleBoard$Needle" "high" "J", Cond.methodLink RX1 50 yX0_greaterOf, Cond.instanceMethod yX0_greaterOf, Cond.selects RX0 yX0_greaterOf yX0_greaterOf, Cond.code yX0_greaterOf cX0_greaterOf 5 (some .long), Cond.methodLink RX0 75 yX0_isBelow, Cond.instanceMethod yX0_isBelow, Cond.selects RX0 yX0_isBelow yX0_isBelow, Cond.code yX0_isBelow cX0_isBelow 5 (some .boolean), Cond.methodLink RX0 72 yX0_rankOf]
def wsL_turn_r6 : List Cond := [Cond.instanceMethod yX0_rankOf, Cond.selects RX0 yX0_rankOf yX0_rankOf, Cond.code yX0_rankOf cX0_rankOf 3 (some .long), Cond.methodLink RX1 54 yX0_lesserOf, Cond.instanceMethod yX0_lesserOf, Cond.selects RX0 yX0_lesserOf yX0_lesserOf, Cond.code yX0_lesserOf cX0_lesserOf 5 (some .long), Cond.methodLink RX1 44 yX0_sizeOf]
def wsL_turn : List Cond := .codeWith yL_turn cL_turn 6 (some .int) [(0, 10, 13, 21), (0, 10, 17, 13), (0, 10, 21, 15)] :: ((wsL_turn_r1 ++ (wsL_turn_r2 ++ (wsL_turn_r3 ++ (wsL_turn_r4 ++ (wsL_turn_r5 ++ wsL_turn_r6))))) ++ wsX10 ++ wsX20 ++ (vx_atS RX2 47 "java/lang/IllegalStateException" ["java/lang/RuntimeException", "java/lang/Exception"]).filter goodWord ++ ns_atg ++ (vx_atS RX2 36 "java/lang/IllegalArgumentException" ["java/lang/RuntimeException", "java/lang/Exception"]).filter goodWord)
def wsL_damp_r1 : List Cond := [Cond.classLink RL 21 "java/util/NoSuchElementException", Cond.classLink RL 13 "java/lang/IllegalArgumentException", Cond.methodLink RL 26 yX2_damp, Cond.instanceMethod yX2_damp, Cond.selects RX2 yX2_damp yX2_damp, Cond.initialized RX2, Cond.code yX2_damp cX2_damp 5 (some .long), Cond.fieldLink RX2 55 "NeedleBoard$Needle" "kind" "LNeedleBoard$Kind;", Cond.fieldLink RX2 82 "NeedleBoard$Needle" "step" "J", Cond.methodLink RX2 51 yX2_needleAt, Cond.instanceMethod yX2_needleAt, Cond.selects RX2 yX2_needleAt yX2_needleAt, Cond.code yX2_needleAt cX2_needleAt 3 (some (.object "NeedleBoard$Needle")), Cond.classLink RX2 161 "java/util/NoSuchElementException", Cond.initialized "java/util/NoSuchElementException", Cond.fieldLink RX2 11 "NeedleBoard" "needles" "[LNeedleBoard$Needle;", Cond.methodLink RX2 24 yX2_numberFrom, Cond.static yX2_numberFrom, Cond.code yX2_numberFrom cX2_numberFrom 5 (some .long), Cond.classLink RX2 32 "java/lang/IllegalArgumentException", Cond.initialized "java/lang/IllegalArgumentException", Cond.methodLink RX2 166 yX0_trimmed, Cond.instanceMethod yX0_trimmed, Cond.selects RX0 yX0_trimmed yX0_trimmed]
def wsL_damp_r2 : List Cond := [Cond.initialized RX0, Cond.code yX0_trimmed cX0_trimmed 3 (some .long), Cond.fieldLink RX0 7 "NeedleBoard$Kind" "COARSE" "LNeedleBoard$Kind;", Cond.methodLink RX2 169 yX0_isNumber, Cond.instanceMethod yX0_isNumber, Cond.selects RX0 yX0_isNumber yX0_isNumber, Cond.code yX0_isNumber cX0_isNumber 3 (some .boolean), Cond.fieldLink RX0 48 "NeedleBoard$Kind" "infinity" "J", Cond.methodLink RX0 51 yX0_sizeOf, Cond.instanceMethod yX0_sizeOf, Cond.selects RX0 yX0_sizeOf yX0_sizeOf, Cond.code yX0_sizeOf cX0_sizeOf 3 (some .long), Cond.fieldLink RX0 36 "NeedleBoard$Kind" "sideBits" "J", Cond.constantLong RX0 70 (-1), Cond.methodLink RX2 78 yX0_sizeOf]
def wsL_damp : List Cond := .codeWith yL_damp cL_damp 6 (some .int) [(0, 10, 13, 21), (0, 10, 17, 13)] :: ((wsL_damp_r1 ++ wsL_damp_r2) ++ wsX10 ++ wsX20 ++ ns_atg ++ (vx_atS RX2 36 "java/lang/IllegalArgumentException" ["java/lang/RuntimeException", "java/lang/Exception"]).filter goodWord)
def wsL_pull_r1 : List Cond := [Cond.classLink RL 21 "java/util/NoSuchElementException", Cond.classLink RL 13 "java/lang/IllegalArgumentException", Cond.methodLink RL 29 yX2_pull, Cond.instanceMethod yX2_pull, Cond.selects RX2 yX2_pull yX2_pull, Cond.initialized RX2, Cond.code yX2_pull cX2_pull 7 (some .boolean), Cond.fieldLink RX2 55 "NeedleBoard$Needle" "kind" "LNeedleBoard$Kind;", Cond.fieldLink RX2 62 "NeedleBoard" "moves" "I", Cond.fieldLink RX2 65 "NeedleBoard$Needle" "value" "J", Cond.methodLink RX2 51 yX2_needleAt, Cond.instanceMethod yX2_needleAt, Cond.selects RX2 yX2_needleAt yX2_needleAt, Cond.code yX2_needleAt cX2_needleAt 3 (some (.object "NeedleBoard$Needle")), Cond.classLink RX2 161 "java/util/NoSuchElementException", Cond.initialized "java/util/NoSuchElementException", Cond.fieldLink RX2 11 "NeedleBoard" "needles" "[LNeedleBoard$Needle;", Cond.methodLink RX2 24 yX2_numberFrom, Cond.static yX2_numberFrom, Cond.code yX2_numberFrom cX2_numberFrom 5 (some .long), Cond.classLink RX2 32 "java/lang/IllegalArgumentException", Cond.initialized "java/lang/IllegalArgumentException", Cond.methodLink RX2 166 yX0_trimmed, Cond.instanceMethod yX0_trimmed]
def wsL_pull_r2 : List Cond := [Cond.selects RX0 yX0_trimmed yX0_trimmed, Cond.initialized RX0, Cond.code yX0_trimmed cX0_trimmed 3 (some .long), Cond.fieldLink RX0 7 "NeedleBoard$Kind" "COARSE" "LNeedleBoard$Kind;", Cond.methodLink RX2 169 yX0_isNumber, Cond.instanceMethod yX0_isNumber, Cond.selects RX0 yX0_isNumber yX0_isNumber, Cond.code yX0_isNumber cX0_isNumber 3 (some .boolean), Cond.fieldLink RX0 48 "NeedleBoard$Kind" "infinity" "J", Cond.methodLink RX0 51 yX0_sizeOf, Cond.instanceMethod yX0_sizeOf, Cond.selects RX0 yX0_sizeOf yX0_sizeOf, Cond.code yX0_sizeOf cX0_sizeOf 3 (some .long), Cond.fieldLink RX0 36 "NeedleBoard$Kind" "sideBits" "J", Cond.constantLong RX0 70 (-1), Cond.methodLink RX2 85 yX1_stepTowards, Cond.instanceMethod yX1_stepTowards, Cond.selects RX1 yX1_stepTowards yX1_stepTowards, Cond.initialized RX1, Cond.code yX1_stepTowards cX1_stepTowards 5 (some .long), Cond.fieldLink RX1 7 "NeedleBoard$Needle" "kind" "LNeedleBoard$Kind;", Cond.fieldLink RX1 35 "NeedleBoard$Needle" "value" "J", Cond.fieldLink RX1 25 "NeedleBoard$Needle" "step" "J", Cond.methodLink RX1 62 yX0_areAlike]
def wsL_pull_r3 : List Cond := [Cond.instanceMethod yX0_areAlike, Cond.selects RX0 yX0_areAlike yX0_areAlike, Cond.code yX0_areAlike cX0_areAlike 5 (some .boolean), Cond.methodLink RX1 66 yX0_negated, Cond.instanceMethod yX0_negated, Cond.selects RX0 yX0_negated yX0_negated, Cond.code yX0_negated cX0_negated 3 (some .long), Cond.methodLink RX1 69 yX0_sum, Cond.instanceMethod yX0_sum, Cond.selects RX0 yX0_sum yX0_sum, Cond.code yX0_sum cX0_sum 5 (some .long), Cond.methodLink RX0 82 yX0_sumByLarger, Cond.instanceMethod yX0_sumByLarger, Cond.selects RX0 yX0_sumByLarger yX0_sumByLarger, Cond.code yX0_sumByLarger cX0_sumByLarger 17 (some .long), Cond.methodLink RX0 55 yX0_exponentOf, Cond.instanceMethod yX0_exponentOf, Cond.selects RX0 yX0_exponentOf yX0_exponentOf, Cond.code yX0_exponentOf cX0_exponentOf 3 (some .int), Cond.fieldLink RX0 29 "NeedleBoard$Kind" "fractionBits" "I", Cond.methodLink RX0 92 Lib.Math.max.name, Cond.static Lib.Math.max.name, Cond.initialized "java/lang/Math", Cond.code Lib.Math.max.name Lib.Math.max.code 2 (some .int)]
def wsL_pull_r4 : List Cond := [Cond.methodLink RX0 59 yX0_significandOf, Cond.instanceMethod yX0_significandOf, Cond.selects RX0 yX0_significandOf yX0_significandOf, Cond.code yX0_significandOf cX0_significandOf 5 (some .long), Cond.fieldLink RX0 40 "NeedleBoard$Kind" "hiddenBit" "J", Cond.methodLink RX0 98 yX0_shiftedDown, Cond.static yX0_shiftedDown, Cond.code yX0_shiftedDown cX0_shiftedDown 5 (some .long), Cond.methodLink RX0 62 yX0_sizeFrom, Cond.instanceMethod yX0_sizeFrom, Cond.selects RX0 yX0_sizeFrom yX0_sizeFrom, Cond.code yX0_sizeFrom cX0_sizeFrom 10 (some .long), Cond.fieldLink RX0 33 "NeedleBoard$Kind" "bias" "I", Cond.methodLink RX0 101 yX0_roundedOff, Cond.static yX0_roundedOff, Cond.code yX0_roundedOff cX0_roundedOff 4 (some .long), Cond.constantLong RX0 104 (7), Cond.constantLong RX0 106 (4), Cond.methodLink RX0 108 yX0_isRoundedUp, Cond.static yX0_isRoundedUp, Cond.code yX0_isRoundedUp cX0_isRoundedUp 6 (some .boolean), Cond.methodLink RX0 66 yX0_withSideOf, Cond.instanceMethod yX0_withSideOf, Cond.selects RX0 yX0_withSideOf yX0_withSideOf]
def wsL_pull_r5 : List Cond := [Cond.code yX0_withSideOf cX0_withSideOf 5 (some .long), Cond.methodLink RX1 44 yX0_sizeOf, Cond.methodLink RX1 72 yX0_withSideOf, Cond.methodLink RX2 58 yX1_moveTo, Cond.instanceMethod yX1_moveTo, Cond.selects RX1 yX1_moveTo yX1_moveTo, Cond.code yX1_moveTo cX1_moveTo 3 none, Cond.fieldLink RX1 38 "NeedleBoard$Needle" "highest" "J", Cond.fieldLink RX1 41 "NeedleBoard$Needle" "lowest" "J", Cond.fieldLink RX1 47 "NeedleBoard$Needle" "greatestSize" "J", Cond.methodLink RX1 57 Lib.MathLoose.max_long.x, Cond.static Lib.MathLoose.max_long.x, Cond.code Lib.MathLoose.max_long.x Lib.MathLoose.max_long.code 4 (some .long), Cond.methodLink RX1 31 yX1_withinLimits, Cond.instanceMethod yX1_withinLimits, Cond.selects RX1 yX1_withinLimits yX1_withinLimits, Cond.code yX1_withinLimits cX1_withinLimits 3 (some .long), Cond.fieldLink RX1 13 "NeedleBoard$Needle" "low" "J", Cond.fieldLink RX1 17 "NeedleBoard$Needle" "high" "J", Cond.methodLink RX1 50 yX0_greaterOf, Cond.instanceMethod yX0_greaterOf, Cond.selects RX0 yX0_greaterOf yX0_greaterOf, Cond.code yX0_greaterOf cX0_greaterOf 5 (some .long), Cond.methodLink RX0 75 yX0_isBelow]
def wsL_pull_r6 : List Cond := [Cond.instanceMethod yX0_isBelow, Cond.selects RX0 yX0_isBelow yX0_isBelow, Cond.code yX0_isBelow cX0_isBelow 5 (some .boolean), Cond.methodLink RX0 72 yX0_rankOf, Cond.instanceMethod yX0_rankOf, Cond.selects RX0 yX0_rankOf yX0_rankOf, Cond.code yX0_rankOf cX0_rankOf 3 (some .long), Cond.methodLink RX1 54 yX0_lesserOf, Cond.instanceMethod yX0_lesserOf, Cond.selects RX0 yX0_lesserOf yX0_lesserOf, Cond.code yX0_lesserOf cX0_lesserOf 5 (some .long), Cond.methodLink RX2 88 yX0_areAlike]
def wsL_pull : List Cond := .codeWith yL_pull cL_pull 6 (some .int) [(0, 18, 21, 21), (0, 18, 25, 13)] :: ((wsL_pull_r1 ++ (wsL_pull_r2 ++ (wsL_pull_r3 ++ (wsL_pull_r4 ++ (wsL_pull_r5 ++ wsL_pull_r6))))) ++ wsX10 ++ wsX20 ++ ns_atg ++ (vx_atS RX2 36 "java/lang/IllegalArgumentException" ["java/lang/RuntimeException", "java/lang/Exception"]).filter goodWord)
def wsL_rest_r1 : List Cond := [Cond.classLink RL 21 "java/util/NoSuchElementException", Cond.classLink RL 13 "java/lang/IllegalArgumentException", Cond.methodLink RL 33 yX2_rest, Cond.instanceMethod yX2_rest, Cond.selects RX2 yX2_rest yX2_rest, Cond.initialized RX2, Cond.code yX2_rest cX2_rest 4 (some .long), Cond.classLink RX2 32 "java/lang/IllegalArgumentException", Cond.initialized "java/lang/IllegalArgumentException", Cond.fieldLink RX2 55 "NeedleBoard$Needle" "kind" "LNeedleBoard$Kind;", Cond.fieldLink RX2 65 "NeedleBoard$Needle" "value" "J", Cond.fieldLink RX2 62 "NeedleBoard" "moves" "I", Cond.methodLink RX2 51 yX2_needleAt, Cond.instanceMethod yX2_needleAt, Cond.selects RX2 yX2_needleAt yX2_needleAt, Cond.code yX2_needleAt cX2_needleAt 3 (some (.object "NeedleBoard$Needle")), Cond.classLink RX2 161 "java/util/NoSuchElementException", Cond.initialized "java/util/NoSuchElementException", Cond.fieldLink RX2 11 "NeedleBoard" "needles" "[LNeedleBoard$Needle;", Cond.methodLink RX2 93 yX0_wholeOf, Cond.instanceMethod yX0_wholeOf, Cond.selects RX0 yX0_wholeOf yX0_wholeOf, Cond.initialized RX0, Cond.code yX0_wholeOf cX0_wholeOf 9 (some .long)]
def wsL_rest_r2 : List Cond := [Cond.fieldLink RX0 33 "NeedleBoard$Kind" "bias" "I", Cond.fieldLink RX0 29 "NeedleBoard$Kind" "fractionBits" "I", Cond.methodLink RX0 51 yX0_sizeOf, Cond.instanceMethod yX0_sizeOf, Cond.selects RX0 yX0_sizeOf yX0_sizeOf, Cond.code yX0_sizeOf cX0_sizeOf 3 (some .long), Cond.fieldLink RX0 36 "NeedleBoard$Kind" "sideBits" "J", Cond.constantLong RX0 70 (-1), Cond.methodLink RX0 55 yX0_exponentOf, Cond.instanceMethod yX0_exponentOf, Cond.selects RX0 yX0_exponentOf yX0_exponentOf, Cond.code yX0_exponentOf cX0_exponentOf 3 (some .int), Cond.methodLink RX0 92 Lib.Math.max.name, Cond.static Lib.Math.max.name, Cond.initialized "java/lang/Math", Cond.code Lib.Math.max.name Lib.Math.max.code 2 (some .int), Cond.methodLink RX0 85 yX0_wholeOfPart, Cond.instanceMethod yX0_wholeOfPart, Cond.selects RX0 yX0_wholeOfPart yX0_wholeOfPart, Cond.code yX0_wholeOfPart cX0_wholeOfPart 7 (some .long), Cond.fieldLink RX0 43 "NeedleBoard$Kind" "one" "J", Cond.fieldLink RX0 40 "NeedleBoard$Kind" "hiddenBit" "J", Cond.methodLink RX0 112 yX0_growsBy, Cond.static yX0_growsBy]
def wsL_rest_r3 : List Cond := [Cond.code yX0_growsBy cX0_growsBy 3 (some .boolean), Cond.methodLink RX0 88 yX0_wholeOfMixed, Cond.instanceMethod yX0_wholeOfMixed, Cond.selects RX0 yX0_wholeOfMixed yX0_wholeOfMixed, Cond.code yX0_wholeOfMixed cX0_wholeOfMixed 14 (some .long), Cond.methodLink RX0 59 yX0_significandOf, Cond.instanceMethod yX0_significandOf, Cond.selects RX0 yX0_significandOf yX0_significandOf, Cond.code yX0_significandOf cX0_significandOf 5 (some .long), Cond.methodLink RX0 108 yX0_isRoundedUp, Cond.static yX0_isRoundedUp, Cond.code yX0_isRoundedUp cX0_isRoundedUp 6 (some .boolean), Cond.methodLink RX0 66 yX0_withSideOf, Cond.instanceMethod yX0_withSideOf, Cond.selects RX0 yX0_withSideOf yX0_withSideOf, Cond.code yX0_withSideOf cX0_withSideOf 5 (some .long), Cond.methodLink RX2 58 yX1_moveTo, Cond.instanceMethod yX1_moveTo, Cond.selects RX1 yX1_moveTo yX1_moveTo, Cond.initialized RX1, Cond.code yX1_moveTo cX1_moveTo 3 none, Cond.fieldLink RX1 35 "NeedleBoard$Needle" "value" "J", Cond.fieldLink RX1 7 "NeedleBoard$Needle" "kind" "LNeedleBoard$Kind;", Cond.fieldLink RX1 38 "NeedleBoard$Needle" "highest" "J"]
def wsL_rest_r4 : List Cond := [Cond.fieldLink RX1 41 "NeedleBoard$Needle" "lowest" "J", Cond.fieldLink RX1 47 "NeedleBoard$Needle" "greatestSize" "J", Cond.methodLink RX1 57 Lib.MathLoose.max_long.x, Cond.static Lib.MathLoose.max_long.x, Cond.code Lib.MathLoose.max_long.x Lib.MathLoose.max_long.code 4 (some .long), Cond.methodLink RX1 31 yX1_withinLimits, Cond.instanceMethod yX1_withinLimits, Cond.selects RX1 yX1_withinLimits yX1_withinLimits, Cond.code yX1_withinLimits cX1_withinLimits 3 (some .long), Cond.fieldLink RX1 13 "NeedleBoard$Needle" "low" "J", Cond.fieldLink RX1 17 "NeedleBoard$Needle" "high" "J", Cond.methodLink RX1 50 yX0_greaterOf, Cond.instanceMethod yX0_greaterOf, Cond.selects RX0 yX0_greaterOf yX0_greaterOf, Cond.code yX0_greaterOf cX0_greaterOf 5 (some .long), Cond.methodLink RX0 75 yX0_isBelow, Cond.instanceMethod yX0_isBelow, Cond.selects RX0 yX0_isBelow yX0_isBelow, Cond.code yX0_isBelow cX0_isBelow 5 (some .boolean), Cond.methodLink RX0 72 yX0_rankOf, Cond.instanceMethod yX0_rankOf, Cond.selects RX0 yX0_rankOf yX0_rankOf, Cond.code yX0_rankOf cX0_rankOf 3 (some .long), Cond.methodLink RX1 54 yX0_lesserOf]
def wsL_rest_r5 : List Cond := [Cond.instanceMethod yX0_lesserOf, Cond.selects RX0 yX0_lesserOf yX0_lesserOf, Cond.code yX0_lesserOf cX0_lesserOf 5 (some .long), Cond.methodLink RX1 44 yX0_sizeOf]
def wsL_rest : List Cond := .codeWith yL_rest cL_rest 5 (some .int) [(0, 9, 12, 21), (0, 9, 16, 13)] :: ((wsL_rest_r1 ++ (wsL_rest_r2 ++ (wsL_rest_r3 ++ (wsL_rest_r4 ++ wsL_rest_r5)))) ++ wsX10 ++ wsX20 ++ (vx_atS RX2 36 "java/lang/IllegalArgumentException" ["java/lang/RuntimeException", "java/lang/Exception"]).filter goodWord ++ ns_atg)
def wsL_face_r1 : List Cond := [Cond.classLink RL 21 "java/util/NoSuchElementException", Cond.methodLink RL 37 yX2_face, Cond.instanceMethod yX2_face, Cond.selects RX2 yX2_face yX2_face, Cond.initialized RX2, Cond.code yX2_face cX2_face 5 (some .long), Cond.fieldLink RX2 55 "NeedleBoard$Needle" "kind" "LNeedleBoard$Kind;", Cond.fieldLink RX2 65 "NeedleBoard$Needle" "value" "J", Cond.fieldLink RX2 62 "NeedleBoard" "moves" "I", Cond.methodLink RX2 51 yX2_needleAt, Cond.instanceMethod yX2_needleAt, Cond.selects RX2 yX2_needleAt yX2_needleAt, Cond.code yX2_needleAt cX2_needleAt 3 (some (.object "NeedleBoard$Needle")), Cond.classLink RX2 161 "java/util/NoSuchElementException", Cond.initialized "java/util/NoSuchElementException", Cond.fieldLink RX2 11 "NeedleBoard" "needles" "[LNeedleBoard$Needle;", Cond.methodLink RX2 97 yX0_withSideOf, Cond.instanceMethod yX0_withSideOf, Cond.selects RX0 yX0_withSideOf yX0_withSideOf, Cond.initialized RX0, Cond.code yX0_withSideOf cX0_withSideOf 5 (some .long), Cond.fieldLink RX0 36 "NeedleBoard$Kind" "sideBits" "J", Cond.methodLink RX0 51 yX0_sizeOf, Cond.instanceMethod yX0_sizeOf]
def wsL_face_r2 : List Cond := [Cond.selects RX0 yX0_sizeOf yX0_sizeOf, Cond.code yX0_sizeOf cX0_sizeOf 3 (some .long), Cond.constantLong RX0 70 (-1), Cond.methodLink RX2 58 yX1_moveTo, Cond.instanceMethod yX1_moveTo, Cond.selects RX1 yX1_moveTo yX1_moveTo, Cond.initialized RX1, Cond.code yX1_moveTo cX1_moveTo 3 none, Cond.fieldLink RX1 35 "NeedleBoard$Needle" "value" "J", Cond.fieldLink RX1 7 "NeedleBoard$Needle" "kind" "LNeedleBoard$Kind;", Cond.fieldLink RX1 38 "NeedleBoard$Needle" "highest" "J", Cond.fieldLink RX1 41 "NeedleBoard$Needle" "lowest" "J", Cond.fieldLink RX1 47 "NeedleBoard$Needle" "greatestSize" "J", Cond.methodLink RX1 57 Lib.MathLoose.max_long.x, Cond.static Lib.MathLoose.max_long.x, Cond.initialized "java/lang/Math", Cond.code Lib.MathLoose.max_long.x Lib.MathLoose.max_long.code 4 (some .long), Cond.methodLink RX1 31 yX1_withinLimits, Cond.instanceMethod yX1_withinLimits, Cond.selects RX1 yX1_withinLimits yX1_withinLimits, Cond.code yX1_withinLimits cX1_withinLimits 3 (some .long), Cond.fieldLink RX1 13 "NeedleBoard$Needle" "low" "J", Cond.fieldLink RX1 17 "NeedleBoard$Needle" "high" "J", Cond.methodLink RX1 50 yX0_greaterOf]
def wsL_face_r3 : List Cond := [Cond.instanceMethod yX0_greaterOf, Cond.selects RX0 yX0_greaterOf yX0_greaterOf, Cond.code yX0_greaterOf cX0_greaterOf 5 (some .long), Cond.methodLink RX0 75 yX0_isBelow, Cond.instanceMethod yX0_isBelow, Cond.selects RX0 yX0_isBelow yX0_isBelow, Cond.code yX0_isBelow cX0_isBelow 5 (some .boolean), Cond.methodLink RX0 72 yX0_rankOf, Cond.instanceMethod yX0_rankOf, Cond.selects RX0 yX0_rankOf yX0_rankOf, Cond.code yX0_rankOf cX0_rankOf 3 (some .long), Cond.methodLink RX1 54 yX0_lesserOf, Cond.instanceMethod yX0_lesserOf, Cond.selects RX0 yX0_lesserOf yX0_lesserOf, Cond.code yX0_lesserOf cX0_lesserOf 5 (some .long), Cond.methodLink RX1 44 yX0_sizeOf]
def wsL_face : List Cond := .codeWith yL_face cL_face 5 (some .int) [(0, 9, 12, 21)] :: ((wsL_face_r1 ++ (wsL_face_r2 ++ wsL_face_r3)) ++ wsX10 ++ wsX20 ++ ns_atg)
def wsL_read_r1 : List Cond := [Cond.classLink RL 21 "java/util/NoSuchElementException", Cond.classLink RL 13 "java/lang/IllegalArgumentException", Cond.methodLink RL 40 yX2_read, Cond.instanceMethod yX2_read, Cond.selects RX2 yX2_read yX2_read, Cond.initialized RX2, Cond.code yX2_read cX2_read 4 (some .long), Cond.classLink RX2 32 "java/lang/IllegalArgumentException", Cond.initialized "java/lang/IllegalArgumentException", Cond.fieldLink RX2 65 "NeedleBoard$Needle" "value" "J", Cond.fieldLink RX2 100 "NeedleBoard$Needle" "low" "J", Cond.fieldLink RX2 103 "NeedleBoard$Needle" "high" "J", Cond.fieldLink RX2 106 "NeedleBoard$Needle" "highest" "J", Cond.fieldLink RX2 109 "NeedleBoard$Needle" "lowest" "J", Cond.fieldLink RX2 112 "NeedleBoard$Needle" "greatestSize" "J", Cond.fieldLink RX2 82 "NeedleBoard$Needle" "step" "J", Cond.fieldLink RX2 55 "NeedleBoard$Needle" "kind" "LNeedleBoard$Kind;", Cond.methodLink RX2 51 yX2_needleAt, Cond.instanceMethod yX2_needleAt, Cond.selects RX2 yX2_needleAt yX2_needleAt, Cond.code yX2_needleAt cX2_needleAt 3 (some (.object "NeedleBoard$Needle")), Cond.classLink RX2 161 "java/util/NoSuchElementException", Cond.initialized "java/util/NoSuchElementException", Cond.fieldLink RX2 11 "NeedleBoard" "needles" "[LNeedleBoard$Needle;"]
def wsL_read_r2 : List Cond := [Cond.methodLink RX2 78 yX0_sizeOf, Cond.instanceMethod yX0_sizeOf, Cond.selects RX0 yX0_sizeOf yX0_sizeOf, Cond.initialized RX0, Cond.code yX0_sizeOf cX0_sizeOf 3 (some .long), Cond.fieldLink RX0 36 "NeedleBoard$Kind" "sideBits" "J", Cond.constantLong RX0 70 (-1), Cond.methodLink RX2 115 yX0_unitOf, Cond.instanceMethod yX0_unitOf, Cond.selects RX0 yX0_unitOf yX0_unitOf, Cond.code yX0_unitOf cX0_unitOf 3 (some .long), Cond.fieldLink RX0 43 "NeedleBoard$Kind" "one" "J", Cond.methodLink RX0 51 yX0_sizeOf, Cond.methodLink RX0 66 yX0_withSideOf, Cond.instanceMethod yX0_withSideOf, Cond.selects RX0 yX0_withSideOf yX0_withSideOf, Cond.code yX0_withSideOf cX0_withSideOf 5 (some .long)]
def wsL_read : List Cond := .codeWith yL_read cL_read 5 (some .int) [(0, 9, 12, 21), (0, 9, 16, 13)] :: ((wsL_read_r1 ++ wsL_read_r2) ++ wsX10 ++ wsX20 ++ (vx_atS RX2 36 "java/lang/IllegalArgumentException" ["java/lang/RuntimeException", "java/lang/Exception"]).filter goodWord ++ ns_atg)
def wsL_between_r1 : List Cond := [Cond.classLink RL 21 "java/util/NoSuchElementException", Cond.classLink RL 13 "java/lang/IllegalArgumentException", Cond.methodLink RL 43 yX2_between, Cond.instanceMethod yX2_between, Cond.selects RX2 yX2_between yX2_between, Cond.initialized RX2, Cond.code yX2_between cX2_between 7 (some .long), Cond.classLink RX2 32 "java/lang/IllegalArgumentException", Cond.initialized "java/lang/IllegalArgumentException", Cond.fieldLink RX2 55 "NeedleBoard$Needle" "kind" "LNeedleBoard$Kind;", Cond.fieldLink RX2 65 "NeedleBoard$Needle" "value" "J", Cond.methodLink RX2 128 Lib.MathLoose.min_long.x, Cond.static Lib.MathLoose.min_long.x, Cond.initialized "java/lang/Math", Cond.code Lib.MathLoose.min_long.x Lib.MathLoose.min_long.code 4 (some .long), Cond.methodLink RX2 133 Lib.MathLoose.max_long.x, Cond.static Lib.MathLoose.max_long.x, Cond.code Lib.MathLoose.max_long.x Lib.MathLoose.max_long.code 4 (some .long), Cond.methodLink RX2 51 yX2_needleAt, Cond.instanceMethod yX2_needleAt, Cond.selects RX2 yX2_needleAt yX2_needleAt, Cond.code yX2_needleAt cX2_needleAt 3 (some (.object "NeedleBoard$Needle")), Cond.classLink RX2 161 "java/util/NoSuchElementException", Cond.initialized "java/util/NoSuchElementException"]
def wsL_between_r2 : List Cond := [Cond.fieldLink RX2 11 "NeedleBoard" "needles" "[LNeedleBoard$Needle;", Cond.methodLink RX2 122 yX0_lesserOf, Cond.instanceMethod yX0_lesserOf, Cond.selects RX0 yX0_lesserOf yX0_lesserOf, Cond.initialized RX0, Cond.code yX0_lesserOf cX0_lesserOf 5 (some .long), Cond.methodLink RX0 75 yX0_isBelow, Cond.instanceMethod yX0_isBelow, Cond.selects RX0 yX0_isBelow yX0_isBelow, Cond.code yX0_isBelow cX0_isBelow 5 (some .boolean), Cond.methodLink RX0 72 yX0_rankOf, Cond.instanceMethod yX0_rankOf, Cond.selects RX0 yX0_rankOf yX0_rankOf, Cond.code yX0_rankOf cX0_rankOf 3 (some .long), Cond.fieldLink RX0 36 "NeedleBoard$Kind" "sideBits" "J", Cond.constantLong RX0 70 (-1), Cond.methodLink RX2 125 yX0_greaterOf, Cond.instanceMethod yX0_greaterOf, Cond.selects RX0 yX0_greaterOf yX0_greaterOf, Cond.code yX0_greaterOf cX0_greaterOf 5 (some .long), Cond.methodLink RX2 78 yX0_sizeOf, Cond.instanceMethod yX0_sizeOf, Cond.selects RX0 yX0_sizeOf yX0_sizeOf, Cond.code yX0_sizeOf cX0_sizeOf 3 (some .long)]
def wsL_between : List Cond := .codeWith yL_between cL_between 6 (some .int) [(0, 11, 14, 21), (0, 11, 18, 13)] :: ((wsL_between_r1 ++ wsL_between_r2) ++ wsX10 ++ wsX20 ++ (vx_atS RX2 36 "java/lang/IllegalArgumentException" ["java/lang/RuntimeException", "java/lang/Exception"]).filter goodWord ++ ns_atg)
def wsL_order_r1 : List Cond := [Cond.classLink RL 21 "java/util/NoSuchElementException", Cond.methodLink RL 47 yX2_order, Cond.instanceMethod yX2_order, Cond.selects RX2 yX2_order yX2_order, Cond.initialized RX2, Cond.code yX2_order cX2_order 7 (some .int), Cond.fieldLink RX2 15 "NeedleBoard$Kind" "FINE" "LNeedleBoard$Kind;", Cond.methodLink RX2 51 yX2_needleAt, Cond.instanceMethod yX2_needleAt, Cond.selects RX2 yX2_needleAt yX2_needleAt, Cond.code yX2_needleAt cX2_needleAt 3 (some (.object "NeedleBoard$Needle")), Cond.classLink RX2 161 "java/util/NoSuchElementException", Cond.initialized "java/util/NoSuchElementException", Cond.fieldLink RX2 11 "NeedleBoard" "needles" "[LNeedleBoard$Needle;", Cond.methodLink RX2 138 yX1_fineValue, Cond.instanceMethod yX1_fineValue, Cond.selects RX1 yX1_fineValue yX1_fineValue, Cond.initialized RX1, Cond.code yX1_fineValue cX1_fineValue 1 (some .long), Cond.fieldLink RX1 7 "NeedleBoard$Needle" "kind" "LNeedleBoard$Kind;", Cond.fieldLink RX1 75 "NeedleBoard$Kind" "FINE" "LNeedleBoard$Kind;", Cond.fieldLink RX1 35 "NeedleBoard$Needle" "value" "J", Cond.methodLink RX1 78 yX0_fineFromCoarse, Cond.static yX0_fineFromCoarse]
def wsL_order_r2 : List Cond := [Cond.initialized RX0, Cond.code yX0_fineFromCoarse cX0_fineFromCoarse 8 (some .long), Cond.fieldLink RX0 7 "NeedleBoard$Kind" "COARSE" "LNeedleBoard$Kind;", Cond.fieldLink RX0 48 "NeedleBoard$Kind" "infinity" "J", Cond.fieldLink RX0 3 "NeedleBoard$Kind" "FINE" "LNeedleBoard$Kind;", Cond.fieldLink RX0 29 "NeedleBoard$Kind" "fractionBits" "I", Cond.fieldLink RX0 33 "NeedleBoard$Kind" "bias" "I", Cond.methodLink RX0 51 yX0_sizeOf, Cond.instanceMethod yX0_sizeOf, Cond.selects RX0 yX0_sizeOf yX0_sizeOf, Cond.code yX0_sizeOf cX0_sizeOf 3 (some .long), Cond.fieldLink RX0 36 "NeedleBoard$Kind" "sideBits" "J", Cond.constantLong RX0 70 (-1), Cond.methodLink RX0 55 yX0_exponentOf, Cond.instanceMethod yX0_exponentOf, Cond.selects RX0 yX0_exponentOf yX0_exponentOf, Cond.code yX0_exponentOf cX0_exponentOf 3 (some .int), Cond.methodLink RX0 92 Lib.Math.max.name, Cond.static Lib.Math.max.name, Cond.initialized "java/lang/Math", Cond.code Lib.Math.max.name Lib.Math.max.code 2 (some .int), Cond.methodLink RX0 59 yX0_significandOf, Cond.instanceMethod yX0_significandOf, Cond.selects RX0 yX0_significandOf yX0_significandOf]
def wsL_order_r3 : List Cond := [Cond.code yX0_significandOf cX0_significandOf 5 (some .long), Cond.fieldLink RX0 40 "NeedleBoard$Kind" "hiddenBit" "J", Cond.methodLink RX0 62 yX0_sizeFrom, Cond.instanceMethod yX0_sizeFrom, Cond.selects RX0 yX0_sizeFrom yX0_sizeFrom, Cond.code yX0_sizeFrom cX0_sizeFrom 10 (some .long), Cond.methodLink RX0 98 yX0_shiftedDown, Cond.static yX0_shiftedDown, Cond.code yX0_shiftedDown cX0_shiftedDown 5 (some .long), Cond.methodLink RX0 101 yX0_roundedOff, Cond.static yX0_roundedOff, Cond.code yX0_roundedOff cX0_roundedOff 4 (some .long), Cond.constantLong RX0 104 (7), Cond.constantLong RX0 106 (4), Cond.methodLink RX0 108 yX0_isRoundedUp, Cond.static yX0_isRoundedUp, Cond.code yX0_isRoundedUp cX0_isRoundedUp 6 (some .boolean), Cond.methodLink RX0 66 yX0_withSideOf, Cond.instanceMethod yX0_withSideOf, Cond.selects RX0 yX0_withSideOf yX0_withSideOf, Cond.code yX0_withSideOf cX0_withSideOf 5 (some .long), Cond.methodLink RX2 28 yX0_isBelow, Cond.instanceMethod yX0_isBelow, Cond.selects RX0 yX0_isBelow yX0_isBelow]
def wsL_order_r4 : List Cond := [Cond.code yX0_isBelow cX0_isBelow 5 (some .boolean), Cond.methodLink RX0 72 yX0_rankOf, Cond.instanceMethod yX0_rankOf, Cond.selects RX0 yX0_rankOf yX0_rankOf, Cond.code yX0_rankOf cX0_rankOf 3 (some .long)]
def wsL_order : List Cond := .codeWith yL_order cL_order 5 (some .int) [(0, 10, 13, 21)] :: ((wsL_order_r1 ++ (wsL_order_r2 ++ (wsL_order_r3 ++ wsL_order_r4))) ++ wsX20 ++ wsX10 ++ ns_atg)
def wsL_back_r1 : List Cond := [Cond.classLink RL 21 "java/util/NoSuchElementException", Cond.methodLink RL 51 yX2_back, Cond.instanceMethod yX2_back, Cond.selects RX2 yX2_back yX2_back, Cond.initialized RX2, Cond.code yX2_back cX2_back 2 none, Cond.methodLink RX2 51 yX2_needleAt, Cond.instanceMethod yX2_needleAt, Cond.selects RX2 yX2_needleAt yX2_needleAt, Cond.code yX2_needleAt cX2_needleAt 3 (some (.object "NeedleBoard$Needle")), Cond.classLink RX2 161 "java/util/NoSuchElementException", Cond.initialized "java/util/NoSuchElementException", Cond.fieldLink RX2 11 "NeedleBoard" "needles" "[LNeedleBoard$Needle;", Cond.methodLink RX2 142 yX1_startAgain, Cond.instanceMethod yX1_startAgain, Cond.selects RX1 yX1_startAgain yX1_startAgain, Cond.initialized RX1, Cond.code yX1_startAgain cX1_startAgain 1 none, Cond.fieldLink RX1 35 "NeedleBoard$Needle" "value" "J", Cond.fieldLink RX1 38 "NeedleBoard$Needle" "highest" "J", Cond.fieldLink RX1 41 "NeedleBoard$Needle" "lowest" "J", Cond.fieldLink RX1 7 "NeedleBoard$Needle" "kind" "LNeedleBoard$Kind;", Cond.fieldLink RX1 47 "NeedleBoard$Needle" "greatestSize" "J", Cond.methodLink RX1 31 yX1_withinLimits]
def wsL_back_r2 : List Cond := [Cond.instanceMethod yX1_withinLimits, Cond.selects RX1 yX1_withinLimits yX1_withinLimits, Cond.code yX1_withinLimits cX1_withinLimits 3 (some .long), Cond.fieldLink RX1 13 "NeedleBoard$Needle" "low" "J", Cond.fieldLink RX1 17 "NeedleBoard$Needle" "high" "J", Cond.methodLink RX1 50 yX0_greaterOf, Cond.instanceMethod yX0_greaterOf, Cond.selects RX0 yX0_greaterOf yX0_greaterOf, Cond.initialized RX0, Cond.code yX0_greaterOf cX0_greaterOf 5 (some .long), Cond.methodLink RX0 75 yX0_isBelow, Cond.instanceMethod yX0_isBelow, Cond.selects RX0 yX0_isBelow yX0_isBelow, Cond.code yX0_isBelow cX0_isBelow 5 (some .boolean), Cond.methodLink RX0 72 yX0_rankOf, Cond.instanceMethod yX0_rankOf, Cond.selects RX0 yX0_rankOf yX0_rankOf, Cond.code yX0_rankOf cX0_rankOf 3 (some .long), Cond.fieldLink RX0 36 "NeedleBoard$Kind" "sideBits" "J", Cond.constantLong RX0 70 (-1), Cond.methodLink RX1 54 yX0_lesserOf, Cond.instanceMethod yX0_lesserOf, Cond.selects RX0 yX0_lesserOf yX0_lesserOf, Cond.code yX0_lesserOf cX0_lesserOf 5 (some .long)]
def wsL_back_r3 : List Cond := [Cond.methodLink RX1 44 yX0_sizeOf, Cond.instanceMethod yX0_sizeOf, Cond.selects RX0 yX0_sizeOf yX0_sizeOf, Cond.code yX0_sizeOf cX0_sizeOf 3 (some .long)]
def wsL_back : List Cond := .codeWith yL_back cL_back 3 (some .int) [(0, 5, 8, 21)] :: ((wsL_back_r1 ++ (wsL_back_r2 ++ wsL_back_r3)) ++ wsX20 ++ wsX10 ++ ns_atg)
def wsL_tally : List Cond := .codeWith yL_tally cL_tally 7 (some .int) [(0, 11, 14, 13)] :: ([.classLink RL 13 "java/lang/IllegalArgumentException", .methodLink RL 55 yX2_tally, .instanceMethod yX2_tally, .selects RX2 yX2_tally yX2_tally, .initialized RX2, .code yX2_tally cX2_tally 5 (some .long), .classLink RX2 32 "java/lang/IllegalArgumentException", .initialized "java/lang/IllegalArgumentException", .fieldLink RX2 147 "NeedleBoard" "wideTally" "J", .fieldLink RX2 154 "NeedleBoard" "narrowTally" "I", .methodLink RX2 150 yX2_tallied, .static yX2_tallied, .code yX2_tallied cX2_tallied 5 (some .long), .methodLink RX2 133 Lib.MathLoose.max_long.x, .static Lib.MathLoose.max_long.x, .initialized "java/lang/Math", .code Lib.MathLoose.max_long.x Lib.MathLoose.max_long.code 4 (some .long), .methodLink RX2 128 Lib.MathLoose.min_long.x, .static Lib.MathLoose.min_long.x, .code Lib.MathLoose.min_long.x Lib.MathLoose.min_long.code 4 (some .long), .methodLink RX2 175 Lib.MathLoose.abs_long.x, .static Lib.MathLoose.abs_long.x, .code Lib.MathLoose.abs_long.x Lib.MathLoose.abs_long.code 2 (some .long)] ++ wsX20 ++ (vx_atS RX2 36 "java/lang/IllegalArgumentException" ["java/lang/RuntimeException", "java/lang/Exception"]).filter goodWord)
def wsL_law0_r1 : List Cond := [Cond.classLink RL 8 RX2, Cond.instantiable RX2 5, Cond.initialized RX2, Cond.classLink RL 60 RX3, Cond.instantiable RX3 7, Cond.initialized RX3, Cond.arrayClass .long, Cond.constantLong RL 63 (4294967295), Cond.methodLink RL 59 yX2_init, Cond.instanceMethod yX2_init, Cond.code yX2_init cX2_init 1 none, Cond.methodLink RX2 1 objectInit, Cond.instanceMethod objectInit, Cond.code objectInit ⟨#[0xb1]⟩ 1 none, Cond.classLink RX2 9 RX1, Cond.fieldLink RX2 11 "NeedleBoard" "needles" "[LNeedleBoard$Needle;", Cond.methodLink RL 62 yX3_init, Cond.instanceMethod yX3_init, Cond.code yX3_init cX3_init 1 none, Cond.methodLink RX3 1 objectInit, Cond.arrayClass .boolean, Cond.fieldLink RX3 7 "NeedleBoardModel" "isFine" "[Z", Cond.fieldLink RX3 13 "NeedleBoardModel" "cell" "[J", Cond.methodLink RL 65 yL_needle]
def wsL_law0_r2 : List Cond := [Cond.static yL_needle, Cond.initialized RL, Cond.codeWith yL_needle cL_needle 8 (some .int) [(0, 13, 16, 13), (0, 13, 20, 15)], Cond.classLink RL 13 "java/lang/IllegalArgumentException", Cond.classLink RL 15 "java/lang/IllegalStateException", Cond.methodLink RL 7 yX2_needle, Cond.instanceMethod yX2_needle, Cond.selects RX2 yX2_needle yX2_needle, Cond.code yX2_needle cX2_needle 11 (some .int), Cond.classLink RX2 32 "java/lang/IllegalArgumentException", Cond.initialized "java/lang/IllegalArgumentException", Cond.classLink RX2 43 "java/lang/IllegalStateException", Cond.initialized "java/lang/IllegalStateException", Cond.fieldLink RX2 15 "NeedleBoard$Kind" "FINE" "LNeedleBoard$Kind;", Cond.fieldLink RX2 21 "NeedleBoard$Kind" "COARSE" "LNeedleBoard$Kind;", Cond.fieldLink RX2 39 "NeedleBoard" "made" "I", Cond.instantiable RX1 8, Cond.initialized RX1, Cond.methodLink RX2 24 yX2_numberFrom, Cond.static yX2_numberFrom, Cond.code yX2_numberFrom cX2_numberFrom 5 (some .long), Cond.methodLink RX2 166 yX0_trimmed, Cond.instanceMethod yX0_trimmed, Cond.selects RX0 yX0_trimmed yX0_trimmed]
def wsL_law0_r3 : List Cond := [Cond.initialized RX0, Cond.code yX0_trimmed cX0_trimmed 3 (some .long), Cond.fieldLink RX0 7 "NeedleBoard$Kind" "COARSE" "LNeedleBoard$Kind;", Cond.methodLink RX2 169 yX0_isNumber, Cond.instanceMethod yX0_isNumber, Cond.selects RX0 yX0_isNumber yX0_isNumber, Cond.code yX0_isNumber cX0_isNumber 3 (some .boolean), Cond.fieldLink RX0 48 "NeedleBoard$Kind" "infinity" "J", Cond.methodLink RX0 51 yX0_sizeOf, Cond.instanceMethod yX0_sizeOf, Cond.selects RX0 yX0_sizeOf yX0_sizeOf, Cond.code yX0_sizeOf cX0_sizeOf 3 (some .long), Cond.fieldLink RX0 36 "NeedleBoard$Kind" "sideBits" "J", Cond.constantLong RX0 70 (-1), Cond.methodLink RX2 28 yX0_isBelow, Cond.instanceMethod yX0_isBelow, Cond.selects RX0 yX0_isBelow yX0_isBelow, Cond.code yX0_isBelow cX0_isBelow 5 (some .boolean), Cond.methodLink RX0 72 yX0_rankOf, Cond.instanceMethod yX0_rankOf, Cond.selects RX0 yX0_rankOf yX0_rankOf, Cond.code yX0_rankOf cX0_rankOf 3 (some .long), Cond.methodLink RX2 48 yX1_init, Cond.instanceMethod yX1_init]
def wsL_law0_r4 : List Cond := [Cond.code yX1_init cX1_init 6 none, Cond.methodLink RX1 1 objectInit, Cond.fieldLink RX1 7 "NeedleBoard$Needle" "kind" "LNeedleBoard$Kind;", Cond.fieldLink RX1 13 "NeedleBoard$Needle" "low" "J", Cond.fieldLink RX1 17 "NeedleBoard$Needle" "high" "J", Cond.fieldLink RX1 20 "NeedleBoard$Kind" "infinity" "J", Cond.fieldLink RX1 25 "NeedleBoard$Needle" "step" "J", Cond.methodLink RX1 28 yX1_startAgain, Cond.instanceMethod yX1_startAgain, Cond.selects RX1 yX1_startAgain yX1_startAgain, Cond.code yX1_startAgain cX1_startAgain 1 none, Cond.fieldLink RX1 35 "NeedleBoard$Needle" "value" "J", Cond.fieldLink RX1 38 "NeedleBoard$Needle" "highest" "J", Cond.fieldLink RX1 41 "NeedleBoard$Needle" "lowest" "J", Cond.fieldLink RX1 47 "NeedleBoard$Needle" "greatestSize" "J", Cond.methodLink RX1 31 yX1_withinLimits, Cond.instanceMethod yX1_withinLimits, Cond.selects RX1 yX1_withinLimits yX1_withinLimits, Cond.code yX1_withinLimits cX1_withinLimits 3 (some .long), Cond.methodLink RX1 50 yX0_greaterOf, Cond.instanceMethod yX0_greaterOf, Cond.selects RX0 yX0_greaterOf yX0_greaterOf, Cond.code yX0_greaterOf cX0_greaterOf 5 (some .long), Cond.methodLink RX0 75 yX0_isBelow]
def wsL_law0_r5 : List Cond := [Cond.methodLink RX1 54 yX0_lesserOf, Cond.instanceMethod yX0_lesserOf, Cond.selects RX0 yX0_lesserOf yX0_lesserOf, Cond.code yX0_lesserOf cX0_lesserOf 5 (some .long), Cond.methodLink RX1 44 yX0_sizeOf, Cond.methodLink RL 70 yX3_needle, Cond.instanceMethod yX3_needle, Cond.selects RX3 yX3_needle yX3_needle, Cond.code yX3_needle cX3_needle 11 (some .int), Cond.fieldLink RX3 67 "NeedleBoardModel" "needles" "I", Cond.fieldLink RX3 17 "NeedleBoardModel" "thrown" "I", Cond.constantLong RX3 29 (9218868437227405312), Cond.constantLong RX3 31 (2139095040), Cond.methodLink RX3 95 yX3_own, Cond.static yX3_own, Cond.code yX3_own cX3_own 3 (some .long), Cond.methodLink RX3 74 yX3_isNumber, Cond.static yX3_isNumber, Cond.code yX3_isNumber cX3_isNumber 3 (some .boolean), Cond.methodLink RX3 25 yX3_sizeOf, Cond.static yX3_sizeOf, Cond.code yX3_sizeOf cX3_sizeOf 3 (some .long), Cond.constantLong RX3 21 (9223372036854775807), Cond.constantLong RX3 23 (2147483647)]
def wsL_law0_r6 : List Cond := [Cond.methodLink RX3 77 yX3_rank, Cond.static yX3_rank, Cond.code yX3_rank cX3_rank 3 (some .long), Cond.constantLong RX3 33 (-1), Cond.methodLink RX3 88 yX3_set, Cond.instanceMethod yX3_set, Cond.selects RX3 yX3_set yX3_set, Cond.code yX3_set cX3_set 5 none, Cond.methodLink RX3 98 yX3_fresh, Cond.instanceMethod yX3_fresh, Cond.selects RX3 yX3_fresh yX3_fresh, Cond.code yX3_fresh cX3_fresh 4 none, Cond.methodLink RX3 84 yX3_within, Cond.instanceMethod yX3_within, Cond.selects RX3 yX3_within yX3_within, Cond.code yX3_within cX3_within 5 (some .long), Cond.methodLink RX3 80 yX3_get, Cond.instanceMethod yX3_get, Cond.selects RX3 yX3_get yX3_get, Cond.code yX3_get cX3_get 3 (some .long), Cond.methodLink RL 71 yX3_thrown, Cond.instanceMethod yX3_thrown, Cond.selects RX3 yX3_thrown yX3_thrown, Cond.code yX3_thrown cX3_thrown 1 (some .int)]
def wsL_law0_r7 : List Cond := [Cond.methodLink RL 75 yL_put, Cond.static yL_put, Cond.codeWith yL_put cL_put 6 (some .int) [(0, 10, 13, 21), (0, 10, 17, 13)], Cond.classLink RL 21 "java/util/NoSuchElementException", Cond.methodLink RL 17 yX2_put, Cond.instanceMethod yX2_put, Cond.selects RX2 yX2_put yX2_put, Cond.code yX2_put cX2_put 5 (some .long), Cond.fieldLink RX2 55 "NeedleBoard$Needle" "kind" "LNeedleBoard$Kind;", Cond.fieldLink RX2 62 "NeedleBoard" "moves" "I", Cond.fieldLink RX2 65 "NeedleBoard$Needle" "value" "J", Cond.methodLink RX2 51 yX2_needleAt, Cond.instanceMethod yX2_needleAt, Cond.selects RX2 yX2_needleAt yX2_needleAt, Cond.code yX2_needleAt cX2_needleAt 3 (some (.object "NeedleBoard$Needle")), Cond.classLink RX2 161 "java/util/NoSuchElementException", Cond.initialized "java/util/NoSuchElementException", Cond.methodLink RX2 58 yX1_moveTo, Cond.instanceMethod yX1_moveTo, Cond.selects RX1 yX1_moveTo yX1_moveTo, Cond.code yX1_moveTo cX1_moveTo 3 none, Cond.methodLink RX1 57 Lib.MathLoose.max_long.x, Cond.static Lib.MathLoose.max_long.x, Cond.initialized "java/lang/Math"]
def wsL_law0_r8 : List Cond := [Cond.code Lib.MathLoose.max_long.x Lib.MathLoose.max_long.code 4 (some .long), Cond.methodLink RL 78 yX3_put, Cond.instanceMethod yX3_put, Cond.selects RX3 yX3_put yX3_put, Cond.code yX3_put cX3_put 4 (some .long), Cond.methodLink RX3 102 yX3_may, Cond.instanceMethod yX3_may, Cond.selects RX3 yX3_may yX3_may, Cond.code yX3_may cX3_may 4 (some .boolean), Cond.methodLink RX3 70 yX3_isThere, Cond.instanceMethod yX3_isThere, Cond.selects RX3 yX3_isThere yX3_isThere, Cond.code yX3_isThere cX3_isThere 2 (some .boolean), Cond.methodLink RX3 106 yX3_becomes, Cond.instanceMethod yX3_becomes, Cond.selects RX3 yX3_becomes yX3_becomes, Cond.code yX3_becomes cX3_becomes 7 (some .long), Cond.fieldLink RX3 92 "NeedleBoardModel" "calls" "I", Cond.methodLink RL 79 yL_turn, Cond.static yL_turn, Cond.codeWith yL_turn cL_turn 6 (some .int) [(0, 10, 13, 21), (0, 10, 17, 13), (0, 10, 21, 15)], Cond.methodLink RL 23 yX2_turn, Cond.instanceMethod yX2_turn, Cond.selects RX2 yX2_turn yX2_turn]
def wsL_law0_r9 : List Cond := [Cond.code yX2_turn cX2_turn 7 (some .long), Cond.methodLink RX2 69 yX0_areOppositeInfinities, Cond.instanceMethod yX0_areOppositeInfinities, Cond.selects RX0 yX0_areOppositeInfinities yX0_areOppositeInfinities, Cond.code yX0_areOppositeInfinities cX0_areOppositeInfinities 5 (some .boolean), Cond.methodLink RX0 79 yX0_negated, Cond.instanceMethod yX0_negated, Cond.selects RX0 yX0_negated yX0_negated, Cond.code yX0_negated cX0_negated 3 (some .long), Cond.methodLink RX2 74 yX0_sum, Cond.instanceMethod yX0_sum, Cond.selects RX0 yX0_sum yX0_sum, Cond.code yX0_sum cX0_sum 5 (some .long), Cond.methodLink RX0 82 yX0_sumByLarger, Cond.instanceMethod yX0_sumByLarger, Cond.selects RX0 yX0_sumByLarger yX0_sumByLarger, Cond.code yX0_sumByLarger cX0_sumByLarger 17 (some .long), Cond.methodLink RX0 55 yX0_exponentOf, Cond.instanceMethod yX0_exponentOf, Cond.selects RX0 yX0_exponentOf yX0_exponentOf, Cond.code yX0_exponentOf cX0_exponentOf 3 (some .int), Cond.fieldLink RX0 29 "NeedleBoard$Kind" "fractionBits" "I", Cond.methodLink RX0 92 Lib.Math.max.name, Cond.static Lib.Math.max.name]
def wsL_law0_r10 : List Cond := [Cond.code Lib.Math.max.name Lib.Math.max.code 2 (some .int), Cond.methodLink RX0 59 yX0_significandOf, Cond.instanceMethod yX0_significandOf, Cond.selects RX0 yX0_significandOf yX0_significandOf, Cond.code yX0_significandOf cX0_significandOf 5 (some .long), Cond.fieldLink RX0 40 "NeedleBoard$Kind" "hiddenBit" "J", Cond.methodLink RX0 98 yX0_shiftedDown, Cond.static yX0_shiftedDown, Cond.code yX0_shiftedDown cX0_shiftedDown 5 (some .long), Cond.methodLink RX0 62 yX0_sizeFrom, Cond.instanceMethod yX0_sizeFrom, Cond.selects RX0 yX0_sizeFrom yX0_sizeFrom, Cond.code yX0_sizeFrom cX0_sizeFrom 10 (some .long), Cond.fieldLink RX0 33 "NeedleBoard$Kind" "bias" "I", Cond.methodLink RX0 101 yX0_roundedOff, Cond.static yX0_roundedOff, Cond.code yX0_roundedOff cX0_roundedOff 4 (some .long), Cond.constantLong RX0 104 (7), Cond.constantLong RX0 106 (4), Cond.methodLink RX0 108 yX0_isRoundedUp, Cond.static yX0_isRoundedUp, Cond.code yX0_isRoundedUp cX0_isRoundedUp 6 (some .boolean), Cond.methodLink RX0 66 yX0_withSideOf, Cond.instanceMethod yX0_withSideOf]
def wsL_law0_r11 : List Cond := [Cond.selects RX0 yX0_withSideOf yX0_withSideOf, Cond.code yX0_withSideOf cX0_withSideOf 5 (some .long), Cond.methodLink RL 81 yX3_turn, Cond.instanceMethod yX3_turn, Cond.selects RX3 yX3_turn yX3_turn, Cond.code yX3_turn cX3_turn 9 (some .long), Cond.methodLink RX3 109 yX3_isEndless, Cond.static yX3_isEndless, Cond.code yX3_isEndless cX3_isEndless 3 (some .boolean), Cond.methodLink RX3 112 yX3_sum, Cond.static yX3_sum, Cond.code yX3_sum cX3_sum 5 (some .long), Cond.methodLink RX3 51 ⟨"java/lang/Double", "longBitsToDouble", "(J)D"⟩, Cond.native ⟨"java/lang/Double", "longBitsToDouble", "(J)D"⟩, Cond.static ⟨"java/lang/Double", "longBitsToDouble", "(J)D"⟩, Cond.initialized "java/lang/Double", Cond.methodLink RX3 39 ⟨"java/lang/Float", "intBitsToFloat", "(I)F"⟩, Cond.native ⟨"java/lang/Float", "intBitsToFloat", "(I)F"⟩, Cond.static ⟨"java/lang/Float", "intBitsToFloat", "(I)F"⟩, Cond.initialized "java/lang/Float", Cond.methodLink RX3 45 yJxe99ae_doubleToLongBits_ccdee, Cond.static yJxe99ae_doubleToLongBits_ccdee, Cond.initialized RJxe99ae, Cond.code yJxe99ae_doubleToLongBits_ccdee cJxe99ae_doubleToLongBits_ccdee 2 (some .long)]
def wsL_law0_r12 : List Cond := [Cond.methodLink RJxe99ae 134 ⟨"java/lang/Double", "doubleToRawLongBits", "(D)J"⟩, Cond.native ⟨"java/lang/Double", "doubleToRawLongBits", "(D)J"⟩, Cond.static ⟨"java/lang/Double", "doubleToRawLongBits", "(D)J"⟩, Cond.constantLong RJxe99ae 137 (9221120237041090560), Cond.methodLink RJxe99ae 122 yJxe99ae_isNaN_b9ae7, Cond.static yJxe99ae_isNaN_b9ae7, Cond.code yJxe99ae_isNaN_b9ae7 cJxe99ae_isNaN_b9ae7 2 (some .boolean), Cond.methodLink RX3 55 yJxf58ca_floatToIntBits_5c35a, Cond.static yJxf58ca_floatToIntBits_5c35a, Cond.initialized RJxf58ca, Cond.code yJxf58ca_floatToIntBits_5c35a cJxf58ca_floatToIntBits_5c35a 1 (some .int), Cond.methodLink RJxf58ca 74 ⟨"java/lang/Float", "floatToRawIntBits", "(F)I"⟩, Cond.native ⟨"java/lang/Float", "floatToRawIntBits", "(F)I"⟩, Cond.static ⟨"java/lang/Float", "floatToRawIntBits", "(F)I"⟩, Cond.constant RJxf58ca 77 (2143289344), Cond.methodLink RJxf58ca 59 yJxf58ca_isNaN_12338, Cond.static yJxf58ca_isNaN_12338, Cond.code yJxf58ca_isNaN_12338 cJxf58ca_isNaN_12338 1 (some .boolean), Cond.methodLink RL 82 yL_damp, Cond.static yL_damp, Cond.codeWith yL_damp cL_damp 6 (some .int) [(0, 10, 13, 21), (0, 10, 17, 13)], Cond.methodLink RL 26 yX2_damp, Cond.instanceMethod yX2_damp, Cond.selects RX2 yX2_damp yX2_damp]
def wsL_law0_r13 : List Cond := [Cond.code yX2_damp cX2_damp 5 (some .long), Cond.fieldLink RX2 82 "NeedleBoard$Needle" "step" "J", Cond.methodLink RX2 78 yX0_sizeOf, Cond.methodLink RL 84 yX3_damp, Cond.instanceMethod yX3_damp, Cond.selects RX3 yX3_damp yX3_damp, Cond.code yX3_damp cX3_damp 4 (some .long), Cond.methodLink RL 85 yL_pull, Cond.static yL_pull, Cond.codeWith yL_pull cL_pull 6 (some .int) [(0, 18, 21, 21), (0, 18, 25, 13)], Cond.methodLink RL 29 yX2_pull, Cond.instanceMethod yX2_pull, Cond.selects RX2 yX2_pull yX2_pull, Cond.code yX2_pull cX2_pull 7 (some .boolean), Cond.methodLink RX2 85 yX1_stepTowards, Cond.instanceMethod yX1_stepTowards, Cond.selects RX1 yX1_stepTowards yX1_stepTowards, Cond.code yX1_stepTowards cX1_stepTowards 5 (some .long), Cond.methodLink RX1 62 yX0_areAlike, Cond.instanceMethod yX0_areAlike, Cond.selects RX0 yX0_areAlike yX0_areAlike, Cond.code yX0_areAlike cX0_areAlike 5 (some .boolean), Cond.methodLink RX1 66 yX0_negated, Cond.methodLink RX1 69 yX0_sum]
def wsL_law0_r14 : List Cond := [Cond.methodLink RX1 72 yX0_withSideOf, Cond.methodLink RX2 88 yX0_areAlike, Cond.methodLink RL 87 yX3_pull, Cond.instanceMethod yX3_pull, Cond.selects RX3 yX3_pull yX3_pull, Cond.code yX3_pull cX3_pull 13 (some .boolean), Cond.methodLink RX3 116 yX3_alike, Cond.static yX3_alike, Cond.code yX3_alike cX3_alike 5 (some .boolean), Cond.methodLink RX3 63 yX3_isNought, Cond.static yX3_isNought, Cond.code yX3_isNought cX3_isNought 3 (some .boolean), Cond.methodLink RX3 120 yX3_turned, Cond.static yX3_turned, Cond.code yX3_turned cX3_turned 3 (some .long), Cond.methodLink RX3 59 yX3_sided, Cond.static yX3_sided, Cond.code yX3_sided cX3_sided 4 (some .long), Cond.constantLong RX3 35 (-9223372036854775808), Cond.constantLong RX3 37 (2147483648), Cond.methodLink RL 88 yL_rest, Cond.static yL_rest, Cond.codeWith yL_rest cL_rest 5 (some .int) [(0, 9, 12, 21), (0, 9, 16, 13)], Cond.methodLink RL 33 yX2_rest]
def wsL_law0_r15 : List Cond := [Cond.instanceMethod yX2_rest, Cond.selects RX2 yX2_rest yX2_rest, Cond.code yX2_rest cX2_rest 4 (some .long), Cond.methodLink RX2 93 yX0_wholeOf, Cond.instanceMethod yX0_wholeOf, Cond.selects RX0 yX0_wholeOf yX0_wholeOf, Cond.code yX0_wholeOf cX0_wholeOf 9 (some .long), Cond.methodLink RX0 85 yX0_wholeOfPart, Cond.instanceMethod yX0_wholeOfPart, Cond.selects RX0 yX0_wholeOfPart yX0_wholeOfPart, Cond.code yX0_wholeOfPart cX0_wholeOfPart 7 (some .long), Cond.fieldLink RX0 43 "NeedleBoard$Kind" "one" "J", Cond.methodLink RX0 112 yX0_growsBy, Cond.static yX0_growsBy, Cond.code yX0_growsBy cX0_growsBy 3 (some .boolean), Cond.methodLink RX0 88 yX0_wholeOfMixed, Cond.instanceMethod yX0_wholeOfMixed, Cond.selects RX0 yX0_wholeOfMixed yX0_wholeOfMixed, Cond.code yX0_wholeOfMixed cX0_wholeOfMixed 14 (some .long), Cond.methodLink RL 91 yX3_rest, Cond.instanceMethod yX3_rest, Cond.selects RX3 yX3_rest yX3_rest, Cond.code yX3_rest cX3_rest 10 (some .long), Cond.methodLink RX3 127 yX3_whole]
def wsL_law0_r16 : List Cond := [Cond.static yX3_whole, Cond.code yX3_whole cX3_whole 9 (some .double), Cond.constantDouble RX3 123 (4841369599423283200), Cond.constantDouble RX3 125 (4602678819172646912), Cond.methodLink RL 92 yL_face, Cond.static yL_face, Cond.codeWith yL_face cL_face 5 (some .int) [(0, 9, 12, 21)], Cond.methodLink RL 37 yX2_face, Cond.instanceMethod yX2_face, Cond.selects RX2 yX2_face yX2_face, Cond.code yX2_face cX2_face 5 (some .long), Cond.methodLink RX2 97 yX0_withSideOf, Cond.methodLink RL 94 yX3_face, Cond.instanceMethod yX3_face, Cond.selects RX3 yX3_face yX3_face, Cond.code yX3_face cX3_face 4 (some .long), Cond.methodLink RL 95 yL_read, Cond.static yL_read, Cond.codeWith yL_read cL_read 5 (some .int) [(0, 9, 12, 21), (0, 9, 16, 13)], Cond.methodLink RL 40 yX2_read, Cond.instanceMethod yX2_read, Cond.selects RX2 yX2_read yX2_read, Cond.code yX2_read cX2_read 4 (some .long), Cond.fieldLink RX2 100 "NeedleBoard$Needle" "low" "J"]
def wsL_law0_r17 : List Cond := [Cond.fieldLink RX2 103 "NeedleBoard$Needle" "high" "J", Cond.fieldLink RX2 106 "NeedleBoard$Needle" "highest" "J", Cond.fieldLink RX2 109 "NeedleBoard$Needle" "lowest" "J", Cond.fieldLink RX2 112 "NeedleBoard$Needle" "greatestSize" "J", Cond.methodLink RX2 115 yX0_unitOf, Cond.instanceMethod yX0_unitOf, Cond.selects RX0 yX0_unitOf yX0_unitOf, Cond.code yX0_unitOf cX0_unitOf 3 (some .long), Cond.methodLink RL 97 yX3_read, Cond.instanceMethod yX3_read, Cond.selects RX3 yX3_read yX3_read, Cond.code yX3_read cX3_read 6 (some .long), Cond.constantLong RX3 131 (4607182418800017408), Cond.constantLong RX3 133 (1065353216), Cond.methodLink RL 98 yL_between, Cond.static yL_between, Cond.codeWith yL_between cL_between 6 (some .int) [(0, 11, 14, 21), (0, 11, 18, 13)], Cond.methodLink RL 43 yX2_between, Cond.instanceMethod yX2_between, Cond.selects RX2 yX2_between yX2_between, Cond.code yX2_between cX2_between 7 (some .long), Cond.methodLink RX2 128 Lib.MathLoose.min_long.x, Cond.static Lib.MathLoose.min_long.x, Cond.code Lib.MathLoose.min_long.x Lib.MathLoose.min_long.code 4 (some .long)]
def wsL_law0_r18 : List Cond := [Cond.methodLink RX2 133 Lib.MathLoose.max_long.x, Cond.methodLink RX2 122 yX0_lesserOf, Cond.methodLink RX2 125 yX0_greaterOf, Cond.methodLink RL 101 yX3_between, Cond.instanceMethod yX3_between, Cond.selects RX3 yX3_between yX3_between, Cond.code yX3_between cX3_between 14 (some .long), Cond.methodLink RL 102 yL_order, Cond.static yL_order, Cond.codeWith yL_order cL_order 5 (some .int) [(0, 10, 13, 21)], Cond.methodLink RL 47 yX2_order, Cond.instanceMethod yX2_order, Cond.selects RX2 yX2_order yX2_order, Cond.code yX2_order cX2_order 7 (some .int), Cond.methodLink RX2 138 yX1_fineValue, Cond.instanceMethod yX1_fineValue, Cond.selects RX1 yX1_fineValue yX1_fineValue, Cond.code yX1_fineValue cX1_fineValue 1 (some .long), Cond.fieldLink RX1 75 "NeedleBoard$Kind" "FINE" "LNeedleBoard$Kind;", Cond.methodLink RX1 78 yX0_fineFromCoarse, Cond.static yX0_fineFromCoarse, Cond.code yX0_fineFromCoarse cX0_fineFromCoarse 8 (some .long), Cond.fieldLink RX0 3 "NeedleBoard$Kind" "FINE" "LNeedleBoard$Kind;", Cond.methodLink RL 104 yX3_order]
def wsL_law0_r19 : List Cond := [Cond.instanceMethod yX3_order, Cond.selects RX3 yX3_order yX3_order, Cond.code yX3_order cX3_order 7 (some .int), Cond.methodLink RX3 135 yX3_wideBits, Cond.static yX3_wideBits, Cond.code yX3_wideBits cX3_wideBits 3 (some .long), Cond.methodLink RL 105 yL_back, Cond.static yL_back, Cond.codeWith yL_back cL_back 3 (some .int) [(0, 5, 8, 21)], Cond.methodLink RL 51 yX2_back, Cond.instanceMethod yX2_back, Cond.selects RX2 yX2_back yX2_back, Cond.code yX2_back cX2_back 2 none, Cond.methodLink RX2 142 yX1_startAgain, Cond.methodLink RL 108 yX3_back, Cond.instanceMethod yX3_back, Cond.selects RX3 yX3_back yX3_back, Cond.code yX3_back cX3_back 2 none, Cond.methodLink RL 109 yL_tally, Cond.static yL_tally, Cond.codeWith yL_tally cL_tally 7 (some .int) [(0, 11, 14, 13)], Cond.methodLink RL 55 yX2_tally, Cond.instanceMethod yX2_tally, Cond.selects RX2 yX2_tally yX2_tally]
def wsL_law0_r20 : List Cond := [Cond.code yX2_tally cX2_tally 5 (some .long), Cond.fieldLink RX2 147 "NeedleBoard" "wideTally" "J", Cond.fieldLink RX2 154 "NeedleBoard" "narrowTally" "I", Cond.methodLink RX2 150 yX2_tallied, Cond.static yX2_tallied, Cond.code yX2_tallied cX2_tallied 5 (some .long), Cond.methodLink RX2 175 Lib.MathLoose.abs_long.x, Cond.static Lib.MathLoose.abs_long.x, Cond.code Lib.MathLoose.abs_long.x Lib.MathLoose.abs_long.code 2 (some .long), Cond.methodLink RL 112 yX3_tally, Cond.instanceMethod yX3_tally, Cond.selects RX3 yX3_tally yX3_tally, Cond.code yX3_tally cX3_tally 5 (some .long), Cond.fieldLink RX3 138 "NeedleBoardModel" "wide" "J", Cond.fieldLink RX3 146 "NeedleBoardModel" "narrow" "I", Cond.methodLink RX3 142 yX3_grown, Cond.static yX3_grown, Cond.code yX3_grown cX3_grown 7 (some .long), Cond.methodLink RL 113 yX2_count, Cond.instanceMethod yX2_count, Cond.selects RX2 yX2_count yX2_count, Cond.code yX2_count cX2_count 2 (some .int), Cond.methodLink RX2 157 yX2_countNeedles, Cond.instanceMethod yX2_countNeedles]
def wsL_law0_r21 : List Cond := [Cond.selects RX2 yX2_countNeedles yX2_countNeedles, Cond.code yX2_countNeedles cX2_countNeedles 7 (some .int), Cond.methodLink RX2 178 yX1_isCounted, Cond.instanceMethod yX1_isCounted, Cond.selects RX1 yX1_isCounted yX1_isCounted, Cond.code yX1_isCounted cX1_isCounted 2 (some .boolean), Cond.methodLink RL 117 yX3_count, Cond.instanceMethod yX3_count, Cond.selects RX3 yX3_count yX3_count, Cond.code yX3_count cX3_count 7 (some .int)]
def wsL_law0 : List Cond := (wsL_law0_r1 ++ (wsL_law0_r2 ++ (wsL_law0_r3 ++ (wsL_law0_r4 ++ (wsL_law0_r5 ++ (wsL_law0_r6 ++ (wsL_law0_r7 ++ (wsL_law0_r8 ++ (wsL_law0_r9 ++ (wsL_law0_r10 ++ (wsL_law0_r11 ++ (wsL_law0_r12 ++ (wsL_law0_r13 ++ (wsL_law0_r14 ++ (wsL_law0_r15 ++ (wsL_law0_r16 ++ (wsL_law0_r17 ++ (wsL_law0_r18 ++ (wsL_law0_r19 ++ (wsL_law0_r20 ++ wsL_law0_r21)))))))))))))))))))) ++ wsX20 ++ wsX30 ++ wsX10 ++ ([] : List Cond)
def wsL_law : List Cond := wsL_law0 ++ (vx_atS RX2 36 "java/lang/IllegalArgumentException" ["java/lang/RuntimeException", "java/lang/Exception"]).filter goodWord ++ (vx_atS RX2 47 "java/lang/IllegalStateException" ["java/lang/RuntimeException", "java/lang/Exception"]).filter goodWord ++ ns_atg
set_option maxRecDepth 20000 in
theorem ggX0_fineFromCoarse_X0_sizeOf : GoodIn wsX0_fineFromCoarse wsX0_sizeOf := goodIn_r _ [10, 11, 12] (by decide +kernel) (by decide +kernel)
set_option maxRecDepth 20000 in
theorem gX0_fineFromCoarse_X0_sizeOf : GoodIn wsX0_fineFromCoarse (wsV RX0 51 RX0 yX0_sizeOf wsX0_sizeOf) := goodIn_app (goodIn_of _ (by decide +kernel)) ggX0_fineFromCoarse_X0_sizeOf
set_option maxRecDepth 20000 in
theorem ggX0_fineFromCoarse_X0_exponentOf : GoodIn wsX0_fineFromCoarse wsX0_exponentOf := goodIn_r _ [16, 4, 17, 18, 19, 20] (by decide +kernel) (by decide +kernel)
set_option maxRecDepth 20000 in
theorem gX0_fineFromCoarse_X0_exponentOf : GoodIn wsX0_fineFromCoarse (wsV RX0 55 RX0 yX0_exponentOf wsX0_exponentOf) := goodIn_app (goodIn_of _ (by decide +kernel)) ggX0_fineFromCoarse_X0_exponentOf
set_option maxRecDepth 20000 in
theorem ggX0_fineFromCoarse_X0_significandOf : GoodIn wsX0_fineFromCoarse wsX0_significandOf := goodIn_r _ [24, 25] (by decide +kernel) (by decide +kernel)
set_option maxRecDepth 20000 in
theorem gX0_fineFromCoarse_X0_significandOf : GoodIn wsX0_fineFromCoarse (wsV RX0 59 RX0 yX0_significandOf wsX0_significandOf) := goodIn_app (goodIn_of _ (by decide +kernel)) ggX0_fineFromCoarse_X0_significandOf
set_option maxRecDepth 20000 in
theorem ggX0_fineFromCoarse_X0_sizeFrom : GoodIn wsX0_fineFromCoarse wsX0_sizeFrom := goodIn_r _ [29, 25, 5, 2, 4, 30, 31, 9, 32, 33, 34, 35, 36, 37, 38, 39, 40] (by decide +kernel) (by decide +kernel)
set_option maxRecDepth 20000 in
theorem gX0_fineFromCoarse_X0_sizeFrom : GoodIn wsX0_fineFromCoarse (wsV RX0 62 RX0 yX0_sizeFrom wsX0_sizeFrom) := goodIn_app (goodIn_of _ (by decide +kernel)) ggX0_fineFromCoarse_X0_sizeFrom
set_option maxRecDepth 20000 in
theorem ggX0_fineFromCoarse_X0_withSideOf : GoodIn wsX0_fineFromCoarse wsX0_withSideOf := goodIn_r _ [44, 11, 6, 7, 8, 9, 10, 12] (by decide +kernel) (by decide +kernel)
set_option maxRecDepth 20000 in
theorem gX0_fineFromCoarse_X0_withSideOf : GoodIn wsX0_fineFromCoarse (wsV RX0 66 RX0 yX0_withSideOf wsX0_withSideOf) := goodIn_app (goodIn_of _ (by decide +kernel)) ggX0_fineFromCoarse_X0_withSideOf
end
section
set_option maxRecDepth 20000 in
theorem wsL_law0_r1_in : ∀ w ∈ wsL_law0_r1, w ∈ lw_tbl := fun w h => (goodIn_p wsL_law0_r1 [37, 40, 467] (by decide +kernel) (by decide +kernel) w h).1
set_option maxRecDepth 20000 in
theorem wsL_law0_r2_in : ∀ w ∈ wsL_law0_r2, w ∈ lw_tbl := fun w h => (goodIn_p wsL_law0_r2 [86, 92] (by decide +kernel) (by decide +kernel) w h).1
set_option maxRecDepth 20000 in
theorem wsL_law0_r3_in : ∀ w ∈ wsL_law0_r3, w ∈ lw_tbl := fun w h => (goodIn_p wsL_law0_r3 [96, 101, 76, 174, 179] (by decide +kernel) (by decide +kernel) w h).1
set_option maxRecDepth 20000 in
theorem wsL_law0_r4_in : ∀ w ∈ wsL_law0_r4, w ∈ lw_tbl := fun w h => (goodIn_p wsL_law0_r4 [200, 205, 209, 213] (by decide +kernel) (by decide +kernel) w h).1
set_option maxRecDepth 20000 in
theorem wsL_law0_r5_in : ∀ w ∈ wsL_law0_r5, w ∈ lw_tbl := fun w h => (goodIn_p wsL_law0_r5 [218, 500, 503, 506, 509] (by decide +kernel) (by decide +kernel) w h).1
set_option maxRecDepth 20000 in
theorem wsL_law0_r6_in : ∀ w ∈ wsL_law0_r6, w ∈ lw_tbl := fun w h => (goodIn_p wsL_law0_r6 [516, 521, 525, 529, 533, 496] (by decide +kernel) (by decide +kernel) w h).1
set_option maxRecDepth 20000 in
theorem wsL_law0_r7_in : ∀ w ∈ wsL_law0_r7, w ∈ lw_tbl := fun w h => (goodIn_p wsL_law0_r7 [259, 263, 283] (by decide +kernel) (by decide +kernel) w h).1
set_option maxRecDepth 20000 in
theorem wsL_law0_r8_in : ∀ w ∈ wsL_law0_r8, w ∈ lw_tbl := fun w h => (goodIn_p wsL_law0_r8 [286, 537, 541, 545, 549] (by decide +kernel) (by decide +kernel) w h).1
set_option maxRecDepth 20000 in
theorem wsL_law0_r9_in : ∀ w ∈ wsL_law0_r9, w ∈ lw_tbl := fun w h => (goodIn_p wsL_law0_r9 [293, 297, 301, 306, 310, 314] (by decide +kernel) (by decide +kernel) w h).1
set_option maxRecDepth 20000 in
theorem wsL_law0_r10_in : ∀ w ∈ wsL_law0_r10, w ∈ lw_tbl := fun w h => (goodIn_p wsL_law0_r10 [317, 321, 324, 328, 331, 336] (by decide +kernel) (by decide +kernel) w h).1
set_option maxRecDepth 20000 in
theorem wsL_law0_r11_in : ∀ w ∈ wsL_law0_r11, w ∈ lw_tbl := fun w h => (goodIn_p wsL_law0_r11 [340, 553, 556, 559, 565] (by decide +kernel) (by decide +kernel) w h).1
set_option maxRecDepth 20000 in
theorem wsL_law0_r12_in : ∀ w ∈ wsL_law0_r12, w ∈ lw_tbl := fun w h => (goodIn_p wsL_law0_r12 [568, 578, 581] (by decide +kernel) (by decide +kernel) w h).1
set_option maxRecDepth 20000 in
theorem wsL_law0_r13_in : ∀ w ∈ wsL_law0_r13, w ∈ lw_tbl := fun w h => (goodIn_p wsL_law0_r13 [347, 589, 355, 359, 363] (by decide +kernel) (by decide +kernel) w h).1
set_option maxRecDepth 20000 in
theorem wsL_law0_r14_in : ∀ w ∈ wsL_law0_r14, w ∈ lw_tbl := fun w h => (goodIn_p wsL_law0_r14 [593, 596, 599, 602, 605] (by decide +kernel) (by decide +kernel) w h).1
set_option maxRecDepth 20000 in
theorem wsL_law0_r15_in : ∀ w ∈ wsL_law0_r15, w ∈ lw_tbl := fun w h => (goodIn_p wsL_law0_r15 [374, 379, 383, 386, 390, 611] (by decide +kernel) (by decide +kernel) w h).1
set_option maxRecDepth 20000 in
theorem wsL_law0_r16_in : ∀ w ∈ wsL_law0_r16, w ∈ lw_tbl := fun w h => (goodIn_p wsL_law0_r16 [614, 397, 620, 405] (by decide +kernel) (by decide +kernel) w h).1
set_option maxRecDepth 20000 in
theorem wsL_law0_r17_in : ∀ w ∈ wsL_law0_r17, w ∈ lw_tbl := fun w h => (goodIn_p wsL_law0_r17 [409, 624, 417, 423] (by decide +kernel) (by decide +kernel) w h).1
set_option maxRecDepth 20000 in
theorem wsL_law0_r18_in : ∀ w ∈ wsL_law0_r18, w ∈ lw_tbl := fun w h => (goodIn_p wsL_law0_r18 [630, 432, 436, 439] (by decide +kernel) (by decide +kernel) w h).1
set_option maxRecDepth 20000 in
theorem wsL_law0_r19_in : ∀ w ∈ wsL_law0_r19, w ∈ lw_tbl := fun w h => (goodIn_p wsL_law0_r19 [634, 637, 447, 641] (by decide +kernel) (by decide +kernel) w h).1
set_option maxRecDepth 20000 in
theorem wsL_law0_r20_in : ∀ w ∈ wsL_law0_r20, w ∈ lw_tbl := fun w h => (goodIn_p wsL_law0_r20 [455, 459, 462, 645, 648, 62] (by decide +kernel) (by decide +kernel) w h).1
set_option maxRecDepth 20000 in
theorem wsL_law0_r21_in : ∀ w ∈ wsL_law0_r21, w ∈ lw_tbl := fun w h => (goodIn_p wsL_law0_r21 [66, 70, 652] (by decide +kernel) (by decide +kernel) w h).1
theorem wsL_law_in_X20 : ∀ w ∈ wsX20, w ∈ lw_tbl := by decide +kernel
theorem wsL_law_in_X30 : ∀ w ∈ wsX30, w ∈ lw_tbl := by decide +kernel
theorem wsL_law_in_X10 : ∀ w ∈ wsX10, w ∈ lw_tbl := by decide +kernel
theorem wsL_law_in0 : ∀ w ∈ wsL_law0, w ∈ lw_tbl := fun w h => (List.mem_append.mp h).elim (fun h => (List.mem_append.mp h).elim (fun h => (List.mem_append.mp h).elim (fun h => (List.mem_append.mp h).elim ((fun w h => (List.mem_append.mp h).elim (wsL_law0_r1_in w) ((fun w h => (List.mem_append.mp h).elim (wsL_law0_r2_in w) ((fun w h => (List.mem_append.mp h).elim (wsL_law0_r3_in w) ((fun w h => (List.mem_append.mp h).elim (wsL_law0_r4_in w) ((fun w h => (List.mem_append.mp h).elim (wsL_law0_r5_in w) ((fun w h => (List.mem_append.mp h).elim (wsL_law0_r6_in w) ((fun w h => (List.mem_append.mp h).elim (wsL_law0_r7_in w) ((fun w h => (List.mem_append.mp h).elim (wsL_law0_r8_in w) ((fun w h => (List.mem_append.mp h).elim (wsL_law0_r9_in w) ((fun w h => (List.mem_append.mp h).elim (wsL_law0_r10_in w) ((fun w h => (List.mem_append.mp h).elim (wsL_law0_r11_in w) ((fun w h => (List.mem_append.mp h).elim (wsL_law0_r12_in w) ((fun w h => (List.mem_append.mp h).elim (wsL_law0_r13_in w) ((fun w h => (List.mem_append.mp h).elim (wsL_law0_r14_in w) ((fun w h => (List.mem_append.mp h).elim (wsL_law0_r15_in w) ((fun w h => (List.mem_append.mp h).elim (wsL_law0_r16_in w) ((fun w h => (List.mem_append.mp h).elim (wsL_law0_r17_in w) ((fun w h => (List.mem_append.mp h).elim (wsL_law0_r18_in w) ((fun w h => (List.mem_append.mp h).elim (wsL_law0_r19_in w) ((fun w h => (List.mem_append.mp h).elim (wsL_law0_r20_in w) ((fun w h => wsL_law0_r21_in w h) w)) w)) w)) w)) w)) w)) w)) w)) w)) w)) w)) w)) w)) w)) w)) w)) w)) w)) w)) w)) w) (wsL_law_in_X20 w)) (wsL_law_in_X30 w)) (wsL_law_in_X10 w)) (fun h => nomatch h)
theorem wsL_law_x0 : ∀ w ∈ (vx_atS RX2 36 "java/lang/IllegalArgumentException" ["java/lang/RuntimeException", "java/lang/Exception"]).filter goodWord, w ∈ lw_tbl := by decide +kernel
theorem wsL_law_x1 : ∀ w ∈ (vx_atS RX2 47 "java/lang/IllegalStateException" ["java/lang/RuntimeException", "java/lang/Exception"]).filter goodWord, w ∈ lw_tbl := by decide +kernel
theorem wsL_law_x2 : ∀ w ∈ ns_atg, w ∈ lw_tbl := by decide +kernel
theorem wsL_law_in : ∀ w ∈ wsL_law, w ∈ lw_tbl := fun w h => (List.mem_append.mp h).elim (fun h => (List.mem_append.mp h).elim (fun h => (List.mem_append.mp h).elim (fun h => wsL_law_in0 w h) (fun h => wsL_law_x0 w h)) (fun h => wsL_law_x1 w h)) (fun h => wsL_law_x2 w h)
theorem inX0 : ∀ w ∈ wsX00, w ∈ lw_tbl := by decide +kernel
theorem inlX1 : ∀ w ∈ wsX10, w ∈ wsL_law := fun _ h => List.mem_append_left _ (List.mem_append_left _ (List.mem_append_left _ (List.mem_append_left _ (List.mem_append_right _ h))))
theorem inX1 : ∀ w ∈ wsX10, w ∈ lw_tbl := fun w h => wsL_law_in w (inlX1 w h)
theorem inlX2 : ∀ w ∈ wsX20, w ∈ wsL_law := fun _ h => List.mem_append_left _ (List.mem_append_left _ (List.mem_append_left _ (List.mem_append_left _ (List.mem_append_left _ (List.mem_append_left _ (List.mem_append_right _ h))))))
theorem inX2 : ∀ w ∈ wsX20, w ∈ lw_tbl := fun w h => wsL_law_in w (inlX2 w h)
theorem inlX3 : ∀ w ∈ wsX30, w ∈ wsL_law := fun _ h => List.mem_append_left _ (List.mem_append_left _ (List.mem_append_left _ (List.mem_append_left _ (List.mem_append_left _ (List.mem_append_right _ h)))))
theorem inX3 : ∀ w ∈ wsX30, w ∈ lw_tbl := fun w h => wsL_law_in w (inlX3 w h)
theorem inJxe99ae : ∀ w ∈ wsJxe99ae0, w ∈ lw_tbl := by decide +kernel
theorem inJx29ce0 : ∀ w ∈ wsJx29ce00, w ∈ lw_tbl := by decide +kernel
theorem inJxf58ca : ∀ w ∈ wsJxf58ca0, w ∈ lw_tbl := by decide +kernel
theorem inJ9 : ∀ w ∈ wsJ90, w ∈ lw_tbl := by decide +kernel
theorem inJ0 : ∀ w ∈ wsJ00, w ∈ lw_tbl := by decide +kernel
end
section
theorem dX0_fineFromCoarse_0 : decode cX0_fineFromCoarse 0 = .ok (.getstatic 7, 3) := by decide +kernel
theorem dX0_fineFromCoarse_3 : decode cX0_fineFromCoarse 3 = .ok (.lload_n 0, 1) := by decide +kernel
theorem dX0_fineFromCoarse_4 : decode cX0_fineFromCoarse 4 = .ok (.invokevirtual 51, 3) := by decide +kernel
theorem dX0_fineFromCoarse_7 : decode cX0_fineFromCoarse 7 = .ok (.lstore_n 2, 1) := by decide +kernel
theorem dX0_fineFromCoarse_8 : decode cX0_fineFromCoarse 8 = .ok (.lload_n 2, 1) := by decide +kernel
theorem dX0_fineFromCoarse_9 : decode cX0_fineFromCoarse 9 = .ok (.lconst 0, 1) := by decide +kernel
theorem dX0_fineFromCoarse_10 : decode cX0_fineFromCoarse 10 = .ok (.lcmp, 1) := by decide +kernel
theorem dX0_fineFromCoarse_11 : decode cX0_fineFromCoarse 11 = .ok (.ifCond .ne 9, 3) := by decide +kernel
theorem dX0_fineFromCoarse_14 : decode cX0_fineFromCoarse 14 = .ok (.lconst 0, 1) := by decide +kernel
theorem dX0_fineFromCoarse_15 : decode cX0_fineFromCoarse 15 = .ok (.lstore 4, 2) := by decide +kernel
theorem dX0_fineFromCoarse_17 : decode cX0_fineFromCoarse 17 = .ok (.goto 85, 3) := by decide +kernel
theorem dX0_fineFromCoarse_20 : decode cX0_fineFromCoarse 20 = .ok (.lload_n 2, 1) := by decide +kernel
theorem dX0_fineFromCoarse_21 : decode cX0_fineFromCoarse 21 = .ok (.getstatic 7, 3) := by decide +kernel
theorem dX0_fineFromCoarse_24 : decode cX0_fineFromCoarse 24 = .ok (.getfield 48, 3) := by decide +kernel
theorem dX0_fineFromCoarse_27 : decode cX0_fineFromCoarse 27 = .ok (.lcmp, 1) := by decide +kernel
theorem dX0_fineFromCoarse_28 : decode cX0_fineFromCoarse 28 = .ok (.ifCond .ne 14, 3) := by decide +kernel
theorem dX0_fineFromCoarse_31 : decode cX0_fineFromCoarse 31 = .ok (.getstatic 3, 3) := by decide +kernel
theorem dX0_fineFromCoarse_34 : decode cX0_fineFromCoarse 34 = .ok (.getfield 48, 3) := by decide +kernel
theorem dX0_fineFromCoarse_37 : decode cX0_fineFromCoarse 37 = .ok (.lstore 4, 2) := by decide +kernel
theorem dX0_fineFromCoarse_39 : decode cX0_fineFromCoarse 39 = .ok (.goto 63, 3) := by decide +kernel
theorem dX0_fineFromCoarse_42 : decode cX0_fineFromCoarse 42 = .ok (.getstatic 3, 3) := by decide +kernel
theorem dX0_fineFromCoarse_45 : decode cX0_fineFromCoarse 45 = .ok (.getfield 29, 3) := by decide +kernel
theorem dX0_fineFromCoarse_48 : decode cX0_fineFromCoarse 48 = .ok (.getstatic 7, 3) := by decide +kernel
theorem dX0_fineFromCoarse_51 : decode cX0_fineFromCoarse 51 = .ok (.getfield 29, 3) := by decide +kernel
theorem dX0_fineFromCoarse_54 : decode cX0_fineFromCoarse 54 = .ok (.isub, 1) := by decide +kernel
theorem dX0_fineFromCoarse_55 : decode cX0_fineFromCoarse 55 = .ok (.iconst 3, 1) := by decide +kernel
theorem dX0_fineFromCoarse_56 : decode cX0_fineFromCoarse 56 = .ok (.iadd, 1) := by decide +kernel
theorem dX0_fineFromCoarse_57 : decode cX0_fineFromCoarse 57 = .ok (.istore 6, 2) := by decide +kernel
theorem dX0_fineFromCoarse_59 : decode cX0_fineFromCoarse 59 = .ok (.getstatic 7, 3) := by decide +kernel
theorem dX0_fineFromCoarse_62 : decode cX0_fineFromCoarse 62 = .ok (.lload_n 2, 1) := by decide +kernel
theorem dX0_fineFromCoarse_63 : decode cX0_fineFromCoarse 63 = .ok (.invokevirtual 55, 3) := by decide +kernel
theorem dX0_fineFromCoarse_66 : decode cX0_fineFromCoarse 66 = .ok (.getstatic 7, 3) := by decide +kernel
theorem dX0_fineFromCoarse_69 : decode cX0_fineFromCoarse 69 = .ok (.getfield 33, 3) := by decide +kernel
theorem dX0_fineFromCoarse_72 : decode cX0_fineFromCoarse 72 = .ok (.isub, 1) := by decide +kernel
theorem dX0_fineFromCoarse_73 : decode cX0_fineFromCoarse 73 = .ok (.getstatic 3, 3) := by decide +kernel
theorem dX0_fineFromCoarse_76 : decode cX0_fineFromCoarse 76 = .ok (.getfield 33, 3) := by decide +kernel
theorem dX0_fineFromCoarse_79 : decode cX0_fineFromCoarse 79 = .ok (.iadd, 1) := by decide +kernel
theorem dX0_fineFromCoarse_80 : decode cX0_fineFromCoarse 80 = .ok (.istore 7, 2) := by decide +kernel
theorem dX0_fineFromCoarse_82 : decode cX0_fineFromCoarse 82 = .ok (.getstatic 3, 3) := by decide +kernel
theorem dX0_fineFromCoarse_85 : decode cX0_fineFromCoarse 85 = .ok (.getstatic 7, 3) := by decide +kernel
theorem dX0_fineFromCoarse_88 : decode cX0_fineFromCoarse 88 = .ok (.lload_n 2, 1) := by decide +kernel
theorem dX0_fineFromCoarse_89 : decode cX0_fineFromCoarse 89 = .ok (.invokevirtual 59, 3) := by decide +kernel
theorem dX0_fineFromCoarse_92 : decode cX0_fineFromCoarse 92 = .ok (.iload 6, 2) := by decide +kernel
theorem dX0_fineFromCoarse_94 : decode cX0_fineFromCoarse 94 = .ok (.lshl, 1) := by decide +kernel
theorem dX0_fineFromCoarse_95 : decode cX0_fineFromCoarse 95 = .ok (.iload 7, 2) := by decide +kernel
theorem dX0_fineFromCoarse_97 : decode cX0_fineFromCoarse 97 = .ok (.invokevirtual 62, 3) := by decide +kernel
theorem dX0_fineFromCoarse_100 : decode cX0_fineFromCoarse 100 = .ok (.lstore 4, 2) := by decide +kernel
theorem dX0_fineFromCoarse_102 : decode cX0_fineFromCoarse 102 = .ok (.getstatic 3, 3) := by decide +kernel
theorem dX0_fineFromCoarse_105 : decode cX0_fineFromCoarse 105 = .ok (.lload 4, 2) := by decide +kernel
theorem dX0_fineFromCoarse_107 : decode cX0_fineFromCoarse 107 = .ok (.lload_n 0, 1) := by decide +kernel
theorem dX0_fineFromCoarse_108 : decode cX0_fineFromCoarse 108 = .ok (.invokevirtual 66, 3) := by decide +kernel
theorem dX0_fineFromCoarse_111 : decode cX0_fineFromCoarse 111 = .ok (.lreturn, 1) := by decide +kernel
theorem dX0_trimmed_0 : decode cX0_trimmed 0 = .ok (.aload_n 0, 1) := by decide +kernel
theorem dX0_trimmed_1 : decode cX0_trimmed 1 = .ok (.getstatic 7, 3) := by decide +kernel
theorem dX0_trimmed_4 : decode cX0_trimmed 4 = .ok (.if_acmp .ne 9, 3) := by decide +kernel
theorem dX0_trimmed_7 : decode cX0_trimmed 7 = .ok (.lload_n 1, 1) := by decide +kernel
theorem dX0_trimmed_8 : decode cX0_trimmed 8 = .ok (.l2i, 1) := by decide +kernel
theorem dX0_trimmed_9 : decode cX0_trimmed 9 = .ok (.i2l, 1) := by decide +kernel
theorem dX0_trimmed_10 : decode cX0_trimmed 10 = .ok (.goto 4, 3) := by decide +kernel
theorem dX0_trimmed_13 : decode cX0_trimmed 13 = .ok (.lload_n 1, 1) := by decide +kernel
theorem dX0_trimmed_14 : decode cX0_trimmed 14 = .ok (.lreturn, 1) := by decide +kernel
set_option maxRecDepth 20000 in
theorem ggX0_isNumber_X0_sizeOf : GoodIn wsX0_isNumber wsX0_sizeOf := goodIn_r _ [6, 7, 8] (by decide +kernel) (by decide +kernel)
set_option maxRecDepth 20000 in
theorem gX0_isNumber_X0_sizeOf : GoodIn wsX0_isNumber (wsV RX0 51 RX0 yX0_sizeOf wsX0_sizeOf) := goodIn_app (goodIn_of _ (by decide +kernel)) ggX0_isNumber_X0_sizeOf
theorem dX0_isNumber_0 : decode cX0_isNumber 0 = .ok (.aload_n 0, 1) := by decide +kernel
theorem dX0_isNumber_1 : decode cX0_isNumber 1 = .ok (.lload_n 1, 1) := by decide +kernel
theorem dX0_isNumber_2 : decode cX0_isNumber 2 = .ok (.invokevirtual 51, 3) := by decide +kernel
theorem dX0_isNumber_5 : decode cX0_isNumber 5 = .ok (.aload_n 0, 1) := by decide +kernel
theorem dX0_isNumber_6 : decode cX0_isNumber 6 = .ok (.getfield 48, 3) := by decide +kernel
theorem dX0_isNumber_9 : decode cX0_isNumber 9 = .ok (.lcmp, 1) := by decide +kernel
theorem dX0_isNumber_10 : decode cX0_isNumber 10 = .ok (.ifCond .gt 7, 3) := by decide +kernel
theorem dX0_isNumber_13 : decode cX0_isNumber 13 = .ok (.iconst 1, 1) := by decide +kernel
theorem dX0_isNumber_14 : decode cX0_isNumber 14 = .ok (.goto 4, 3) := by decide +kernel
theorem dX0_isNumber_17 : decode cX0_isNumber 17 = .ok (.iconst 0, 1) := by decide +kernel
theorem dX0_isNumber_18 : decode cX0_isNumber 18 = .ok (.ireturn, 1) := by decide +kernel
theorem dX0_sizeOf_0 : decode cX0_sizeOf 0 = .ok (.lload_n 1, 1) := by decide +kernel
theorem dX0_sizeOf_1 : decode cX0_sizeOf 1 = .ok (.aload_n 0, 1) := by decide +kernel
theorem dX0_sizeOf_2 : decode cX0_sizeOf 2 = .ok (.getfield 36, 3) := by decide +kernel
theorem dX0_sizeOf_5 : decode cX0_sizeOf 5 = .ok (.ldc2_w 70, 3) := by decide +kernel
theorem dX0_sizeOf_8 : decode cX0_sizeOf 8 = .ok (.lxor, 1) := by decide +kernel
theorem dX0_sizeOf_9 : decode cX0_sizeOf 9 = .ok (.land, 1) := by decide +kernel
theorem dX0_sizeOf_10 : decode cX0_sizeOf 10 = .ok (.lreturn, 1) := by decide +kernel
set_option maxRecDepth 20000 in
theorem ggX0_withSideOf_X0_sizeOf : GoodIn wsX0_withSideOf wsX0_sizeOf := goodIn_r _ [6, 1, 7] (by decide +kernel) (by decide +kernel)
set_option maxRecDepth 20000 in
theorem gX0_withSideOf_X0_sizeOf : GoodIn wsX0_withSideOf (wsV RX0 51 RX0 yX0_sizeOf wsX0_sizeOf) := goodIn_app (goodIn_of _ (by decide +kernel)) ggX0_withSideOf_X0_sizeOf
theorem dX0_withSideOf_0 : decode cX0_withSideOf 0 = .ok (.lload_n 3, 1) := by decide +kernel
theorem dX0_withSideOf_1 : decode cX0_withSideOf 1 = .ok (.lconst 0, 1) := by decide +kernel
theorem dX0_withSideOf_2 : decode cX0_withSideOf 2 = .ok (.lcmp, 1) := by decide +kernel
theorem dX0_withSideOf_3 : decode cX0_withSideOf 3 = .ok (.ifCond .ge 12, 3) := by decide +kernel
theorem dX0_withSideOf_6 : decode cX0_withSideOf 6 = .ok (.lload_n 1, 1) := by decide +kernel
theorem dX0_withSideOf_7 : decode cX0_withSideOf 7 = .ok (.aload_n 0, 1) := by decide +kernel
theorem dX0_withSideOf_8 : decode cX0_withSideOf 8 = .ok (.getfield 36, 3) := by decide +kernel
theorem dX0_withSideOf_11 : decode cX0_withSideOf 11 = .ok (.lor, 1) := by decide +kernel
theorem dX0_withSideOf_12 : decode cX0_withSideOf 12 = .ok (.goto 8, 3) := by decide +kernel
theorem dX0_withSideOf_15 : decode cX0_withSideOf 15 = .ok (.aload_n 0, 1) := by decide +kernel
theorem dX0_withSideOf_16 : decode cX0_withSideOf 16 = .ok (.lload_n 1, 1) := by decide +kernel
theorem dX0_withSideOf_17 : decode cX0_withSideOf 17 = .ok (.invokevirtual 51, 3) := by decide +kernel
theorem dX0_withSideOf_20 : decode cX0_withSideOf 20 = .ok (.lreturn, 1) := by decide +kernel
set_option maxRecDepth 20000 in
theorem ggX0_negated_X0_sizeOf : GoodIn wsX0_negated wsX0_sizeOf := goodIn_r _ [6, 1, 7] (by decide +kernel) (by decide +kernel)
set_option maxRecDepth 20000 in
theorem gX0_negated_X0_sizeOf : GoodIn wsX0_negated (wsV RX0 51 RX0 yX0_sizeOf wsX0_sizeOf) := goodIn_app (goodIn_of _ (by decide +kernel)) ggX0_negated_X0_sizeOf
theorem dX0_negated_0 : decode cX0_negated 0 = .ok (.lload_n 1, 1) := by decide +kernel
theorem dX0_negated_1 : decode cX0_negated 1 = .ok (.lconst 0, 1) := by decide +kernel
theorem dX0_negated_2 : decode cX0_negated 2 = .ok (.lcmp, 1) := by decide +kernel
theorem dX0_negated_3 : decode cX0_negated 3 = .ok (.ifCond .ge 11, 3) := by decide +kernel
theorem dX0_negated_6 : decode cX0_negated 6 = .ok (.aload_n 0, 1) := by decide +kernel
theorem dX0_negated_7 : decode cX0_negated 7 = .ok (.lload_n 1, 1) := by decide +kernel
theorem dX0_negated_8 : decode cX0_negated 8 = .ok (.invokevirtual 51, 3) := by decide +kernel
theorem dX0_negated_11 : decode cX0_negated 11 = .ok (.goto 9, 3) := by decide +kernel
theorem dX0_negated_14 : decode cX0_negated 14 = .ok (.lload_n 1, 1) := by decide +kernel
theorem dX0_negated_15 : decode cX0_negated 15 = .ok (.aload_n 0, 1) := by decide +kernel
theorem dX0_negated_16 : decode cX0_negated 16 = .ok (.getfield 36, 3) := by decide +kernel
theorem dX0_negated_19 : decode cX0_negated 19 = .ok (.lor, 1) := by decide +kernel
theorem dX0_negated_20 : decode cX0_negated 20 = .ok (.lreturn, 1) := by decide +kernel
set_option maxRecDepth 20000 in
theorem ggX0_unitOf_X0_sizeOf : GoodIn wsX0_unitOf wsX0_sizeOf := goodIn_r _ [6, 7, 8] (by decide +kernel) (by decide +kernel)
set_option maxRecDepth 20000 in
theorem gX0_unitOf_X0_sizeOf : GoodIn wsX0_unitOf (wsV RX0 51 RX0 yX0_sizeOf wsX0_sizeOf) := goodIn_app (goodIn_of _ (by decide +kernel)) ggX0_unitOf_X0_sizeOf
set_option maxRecDepth 20000 in
theorem ggX0_unitOf_X0_withSideOf : GoodIn wsX0_unitOf wsX0_withSideOf := goodIn_r _ [12, 7, 2, 3, 4, 5, 6, 8] (by decide +kernel) (by decide +kernel)
set_option maxRecDepth 20000 in
theorem gX0_unitOf_X0_withSideOf : GoodIn wsX0_unitOf (wsV RX0 66 RX0 yX0_withSideOf wsX0_withSideOf) := goodIn_app (goodIn_of _ (by decide +kernel)) ggX0_unitOf_X0_withSideOf
theorem dX0_unitOf_0 : decode cX0_unitOf 0 = .ok (.aload_n 0, 1) := by decide +kernel
theorem dX0_unitOf_1 : decode cX0_unitOf 1 = .ok (.lload_n 1, 1) := by decide +kernel
theorem dX0_unitOf_2 : decode cX0_unitOf 2 = .ok (.invokevirtual 51, 3) := by decide +kernel
theorem dX0_unitOf_5 : decode cX0_unitOf 5 = .ok (.lconst 0, 1) := by decide +kernel
theorem dX0_unitOf_6 : decode cX0_unitOf 6 = .ok (.lcmp, 1) := by decide +kernel
theorem dX0_unitOf_7 : decode cX0_unitOf 7 = .ok (.ifCond .ne 7, 3) := by decide +kernel
theorem dX0_unitOf_10 : decode cX0_unitOf 10 = .ok (.lload_n 1, 1) := by decide +kernel
theorem dX0_unitOf_11 : decode cX0_unitOf 11 = .ok (.goto 12, 3) := by decide +kernel
theorem dX0_unitOf_14 : decode cX0_unitOf 14 = .ok (.aload_n 0, 1) := by decide +kernel
theorem dX0_unitOf_15 : decode cX0_unitOf 15 = .ok (.aload_n 0, 1) := by decide +kernel
theorem dX0_unitOf_16 : decode cX0_unitOf 16 = .ok (.getfield 43, 3) := by decide +kernel
theorem dX0_unitOf_19 : decode cX0_unitOf 19 = .ok (.lload_n 1, 1) := by decide +kernel
theorem dX0_unitOf_20 : decode cX0_unitOf 20 = .ok (.invokevirtual 66, 3) := by decide +kernel
theorem dX0_unitOf_23 : decode cX0_unitOf 23 = .ok (.lreturn, 1) := by decide +kernel
set_option maxRecDepth 20000 in
theorem ggX0_isBelow_X0_rankOf : GoodIn wsX0_isBelow wsX0_rankOf := goodIn_r _ [5, 6, 7] (by decide +kernel) (by decide +kernel)
set_option maxRecDepth 20000 in
theorem gX0_isBelow_X0_rankOf : GoodIn wsX0_isBelow (wsV RX0 72 RX0 yX0_rankOf wsX0_rankOf) := goodIn_app (goodIn_of _ (by decide +kernel)) ggX0_isBelow_X0_rankOf
theorem dX0_isBelow_0 : decode cX0_isBelow 0 = .ok (.aload_n 0, 1) := by decide +kernel
theorem dX0_isBelow_1 : decode cX0_isBelow 1 = .ok (.lload_n 1, 1) := by decide +kernel
theorem dX0_isBelow_2 : decode cX0_isBelow 2 = .ok (.invokevirtual 72, 3) := by decide +kernel
theorem dX0_isBelow_5 : decode cX0_isBelow 5 = .ok (.aload_n 0, 1) := by decide +kernel
theorem dX0_isBelow_6 : decode cX0_isBelow 6 = .ok (.lload_n 3, 1) := by decide +kernel
theorem dX0_isBelow_7 : decode cX0_isBelow 7 = .ok (.invokevirtual 72, 3) := by decide +kernel
theorem dX0_isBelow_10 : decode cX0_isBelow 10 = .ok (.lcmp, 1) := by decide +kernel
theorem dX0_isBelow_11 : decode cX0_isBelow 11 = .ok (.ifCond .ge 7, 3) := by decide +kernel
theorem dX0_isBelow_14 : decode cX0_isBelow 14 = .ok (.iconst 1, 1) := by decide +kernel
theorem dX0_isBelow_15 : decode cX0_isBelow 15 = .ok (.goto 4, 3) := by decide +kernel
theorem dX0_isBelow_18 : decode cX0_isBelow 18 = .ok (.iconst 0, 1) := by decide +kernel
theorem dX0_isBelow_19 : decode cX0_isBelow 19 = .ok (.ireturn, 1) := by decide +kernel
set_option maxRecDepth 20000 in
theorem ggX0_lesserOf_X0_isBelow : GoodIn wsX0_lesserOf wsX0_isBelow := goodIn_r _ [5, 6, 7, 8, 4, 9, 10, 11] (by decide +kernel) (by decide +kernel)
set_option maxRecDepth 20000 in
theorem gX0_lesserOf_X0_isBelow : GoodIn wsX0_lesserOf (wsV RX0 75 RX0 yX0_isBelow wsX0_isBelow) := goodIn_app (goodIn_of _ (by decide +kernel)) ggX0_lesserOf_X0_isBelow
theorem dX0_lesserOf_0 : decode cX0_lesserOf 0 = .ok (.aload_n 0, 1) := by decide +kernel
theorem dX0_lesserOf_1 : decode cX0_lesserOf 1 = .ok (.lload_n 3, 1) := by decide +kernel
theorem dX0_lesserOf_2 : decode cX0_lesserOf 2 = .ok (.lload_n 1, 1) := by decide +kernel
theorem dX0_lesserOf_3 : decode cX0_lesserOf 3 = .ok (.invokevirtual 75, 3) := by decide +kernel
theorem dX0_lesserOf_6 : decode cX0_lesserOf 6 = .ok (.ifCond .eq 7, 3) := by decide +kernel
theorem dX0_lesserOf_9 : decode cX0_lesserOf 9 = .ok (.lload_n 3, 1) := by decide +kernel
theorem dX0_lesserOf_10 : decode cX0_lesserOf 10 = .ok (.goto 4, 3) := by decide +kernel
theorem dX0_lesserOf_13 : decode cX0_lesserOf 13 = .ok (.lload_n 1, 1) := by decide +kernel
theorem dX0_lesserOf_14 : decode cX0_lesserOf 14 = .ok (.lreturn, 1) := by decide +kernel
set_option maxRecDepth 20000 in
theorem ggX0_greaterOf_X0_isBelow : GoodIn wsX0_greaterOf wsX0_isBelow := goodIn_r _ [5, 6, 7, 8, 4, 9, 10, 11] (by decide +kernel) (by decide +kernel)
set_option maxRecDepth 20000 in
theorem gX0_greaterOf_X0_isBelow : GoodIn wsX0_greaterOf (wsV RX0 75 RX0 yX0_isBelow wsX0_isBelow) := goodIn_app (goodIn_of _ (by decide +kernel)) ggX0_greaterOf_X0_isBelow
theorem dX0_greaterOf_0 : decode cX0_greaterOf 0 = .ok (.aload_n 0, 1) := by decide +kernel
theorem dX0_greaterOf_1 : decode cX0_greaterOf 1 = .ok (.lload_n 1, 1) := by decide +kernel
theorem dX0_greaterOf_2 : decode cX0_greaterOf 2 = .ok (.lload_n 3, 1) := by decide +kernel
theorem dX0_greaterOf_3 : decode cX0_greaterOf 3 = .ok (.invokevirtual 75, 3) := by decide +kernel
theorem dX0_greaterOf_6 : decode cX0_greaterOf 6 = .ok (.ifCond .eq 7, 3) := by decide +kernel
theorem dX0_greaterOf_9 : decode cX0_greaterOf 9 = .ok (.lload_n 3, 1) := by decide +kernel
theorem dX0_greaterOf_10 : decode cX0_greaterOf 10 = .ok (.goto 4, 3) := by decide +kernel
theorem dX0_greaterOf_13 : decode cX0_greaterOf 13 = .ok (.lload_n 1, 1) := by decide +kernel
theorem dX0_greaterOf_14 : decode cX0_greaterOf 14 = .ok (.lreturn, 1) := by decide +kernel
set_option maxRecDepth 20000 in
theorem ggX0_areAlike_X0_sizeOf : GoodIn wsX0_areAlike wsX0_sizeOf := goodIn_r _ [5, 6, 7] (by decide +kernel) (by decide +kernel)
set_option maxRecDepth 20000 in
theorem gX0_areAlike_X0_sizeOf : GoodIn wsX0_areAlike (wsV RX0 51 RX0 yX0_sizeOf wsX0_sizeOf) := goodIn_app (goodIn_of _ (by decide +kernel)) ggX0_areAlike_X0_sizeOf
theorem dX0_areAlike_0 : decode cX0_areAlike 0 = .ok (.lload_n 1, 1) := by decide +kernel
theorem dX0_areAlike_1 : decode cX0_areAlike 1 = .ok (.lload_n 3, 1) := by decide +kernel
theorem dX0_areAlike_2 : decode cX0_areAlike 2 = .ok (.lcmp, 1) := by decide +kernel
theorem dX0_areAlike_3 : decode cX0_areAlike 3 = .ok (.ifCond .eq 23, 3) := by decide +kernel
theorem dX0_areAlike_6 : decode cX0_areAlike 6 = .ok (.aload_n 0, 1) := by decide +kernel
theorem dX0_areAlike_7 : decode cX0_areAlike 7 = .ok (.lload_n 1, 1) := by decide +kernel
theorem dX0_areAlike_8 : decode cX0_areAlike 8 = .ok (.invokevirtual 51, 3) := by decide +kernel
theorem dX0_areAlike_11 : decode cX0_areAlike 11 = .ok (.lconst 0, 1) := by decide +kernel
theorem dX0_areAlike_12 : decode cX0_areAlike 12 = .ok (.lcmp, 1) := by decide +kernel
theorem dX0_areAlike_13 : decode cX0_areAlike 13 = .ok (.ifCond .ne 17, 3) := by decide +kernel
theorem dX0_areAlike_16 : decode cX0_areAlike 16 = .ok (.aload_n 0, 1) := by decide +kernel
theorem dX0_areAlike_17 : decode cX0_areAlike 17 = .ok (.lload_n 3, 1) := by decide +kernel
theorem dX0_areAlike_18 : decode cX0_areAlike 18 = .ok (.invokevirtual 51, 3) := by decide +kernel
theorem dX0_areAlike_21 : decode cX0_areAlike 21 = .ok (.lconst 0, 1) := by decide +kernel
theorem dX0_areAlike_22 : decode cX0_areAlike 22 = .ok (.lcmp, 1) := by decide +kernel
theorem dX0_areAlike_23 : decode cX0_areAlike 23 = .ok (.ifCond .ne 7, 3) := by decide +kernel
theorem dX0_areAlike_26 : decode cX0_areAlike 26 = .ok (.iconst 1, 1) := by decide +kernel
theorem dX0_areAlike_27 : decode cX0_areAlike 27 = .ok (.goto 4, 3) := by decide +kernel
theorem dX0_areAlike_30 : decode cX0_areAlike 30 = .ok (.iconst 0, 1) := by decide +kernel
theorem dX0_areAlike_31 : decode cX0_areAlike 31 = .ok (.ireturn, 1) := by decide +kernel
set_option maxRecDepth 20000 in
theorem ggX0_areOppositeInfinities_X0_sizeOf : GoodIn wsX0_areOppositeInfinities wsX0_sizeOf := goodIn_r _ [6, 7, 8] (by decide +kernel) (by decide +kernel)
set_option maxRecDepth 20000 in
theorem gX0_areOppositeInfinities_X0_sizeOf : GoodIn wsX0_areOppositeInfinities (wsV RX0 51 RX0 yX0_sizeOf wsX0_sizeOf) := goodIn_app (goodIn_of _ (by decide +kernel)) ggX0_areOppositeInfinities_X0_sizeOf
set_option maxRecDepth 20000 in
theorem ggX0_areOppositeInfinities_X0_negated : GoodIn wsX0_areOppositeInfinities wsX0_negated := goodIn_r _ [12, 7, 2, 3, 4, 5, 6, 8] (by decide +kernel) (by decide +kernel)
set_option maxRecDepth 20000 in
theorem gX0_areOppositeInfinities_X0_negated : GoodIn wsX0_areOppositeInfinities (wsV RX0 79 RX0 yX0_negated wsX0_negated) := goodIn_app (goodIn_of _ (by decide +kernel)) ggX0_areOppositeInfinities_X0_negated
theorem dX0_areOppositeInfinities_0 : decode cX0_areOppositeInfinities 0 = .ok (.aload_n 0, 1) := by decide +kernel
theorem dX0_areOppositeInfinities_1 : decode cX0_areOppositeInfinities 1 = .ok (.lload_n 1, 1) := by decide +kernel
theorem dX0_areOppositeInfinities_2 : decode cX0_areOppositeInfinities 2 = .ok (.invokevirtual 51, 3) := by decide +kernel
theorem dX0_areOppositeInfinities_5 : decode cX0_areOppositeInfinities 5 = .ok (.aload_n 0, 1) := by decide +kernel
theorem dX0_areOppositeInfinities_6 : decode cX0_areOppositeInfinities 6 = .ok (.getfield 48, 3) := by decide +kernel
theorem dX0_areOppositeInfinities_9 : decode cX0_areOppositeInfinities 9 = .ok (.lcmp, 1) := by decide +kernel
theorem dX0_areOppositeInfinities_10 : decode cX0_areOppositeInfinities 10 = .ok (.ifCond .ne 17, 3) := by decide +kernel
theorem dX0_areOppositeInfinities_13 : decode cX0_areOppositeInfinities 13 = .ok (.lload_n 3, 1) := by decide +kernel
theorem dX0_areOppositeInfinities_14 : decode cX0_areOppositeInfinities 14 = .ok (.aload_n 0, 1) := by decide +kernel
theorem dX0_areOppositeInfinities_15 : decode cX0_areOppositeInfinities 15 = .ok (.lload_n 1, 1) := by decide +kernel
theorem dX0_areOppositeInfinities_16 : decode cX0_areOppositeInfinities 16 = .ok (.invokevirtual 79, 3) := by decide +kernel
theorem dX0_areOppositeInfinities_19 : decode cX0_areOppositeInfinities 19 = .ok (.lcmp, 1) := by decide +kernel
theorem dX0_areOppositeInfinities_20 : decode cX0_areOppositeInfinities 20 = .ok (.ifCond .ne 7, 3) := by decide +kernel
theorem dX0_areOppositeInfinities_23 : decode cX0_areOppositeInfinities 23 = .ok (.iconst 1, 1) := by decide +kernel
theorem dX0_areOppositeInfinities_24 : decode cX0_areOppositeInfinities 24 = .ok (.goto 4, 3) := by decide +kernel
theorem dX0_areOppositeInfinities_27 : decode cX0_areOppositeInfinities 27 = .ok (.iconst 0, 1) := by decide +kernel
theorem dX0_areOppositeInfinities_28 : decode cX0_areOppositeInfinities 28 = .ok (.ireturn, 1) := by decide +kernel
set_option maxRecDepth 20000 in
theorem ggX0_sum_X0_sizeOf : GoodIn wsX0_sum wsX0_sizeOf := goodIn_r _ [5, 6, 7] (by decide +kernel) (by decide +kernel)
set_option maxRecDepth 20000 in
theorem gX0_sum_X0_sizeOf : GoodIn wsX0_sum (wsV RX0 51 RX0 yX0_sizeOf wsX0_sizeOf) := goodIn_app (goodIn_of _ (by decide +kernel)) ggX0_sum_X0_sizeOf
set_option maxRecDepth 20000 in
theorem ggX0_sum_X0_sumByLarger : GoodIn wsX0_sum wsX0_sumByLarger := goodIn_r _ [11, 12, 1, 2, 3, 4, 5, 6, 7, 13, 14, 15, 16, 17, 18, 19, 20, 21, 22, 23, 24, 25, 26, 27, 28, 29, 30, 31, 32, 33, 34, 35, 36, 37, 38, 39, 40, 41, 42, 43, 44, 45, 46] (by decide +kernel) (by decide +kernel)
set_option maxRecDepth 20000 in
theorem gX0_sum_X0_sumByLarger : GoodIn wsX0_sum (wsV RX0 82 RX0 yX0_sumByLarger wsX0_sumByLarger) := goodIn_app (goodIn_of _ (by decide +kernel)) ggX0_sum_X0_sumByLarger
theorem dX0_sum_0 : decode cX0_sum 0 = .ok (.aload_n 0, 1) := by decide +kernel
theorem dX0_sum_1 : decode cX0_sum 1 = .ok (.lload_n 1, 1) := by decide +kernel
theorem dX0_sum_2 : decode cX0_sum 2 = .ok (.invokevirtual 51, 3) := by decide +kernel
theorem dX0_sum_5 : decode cX0_sum 5 = .ok (.aload_n 0, 1) := by decide +kernel
theorem dX0_sum_6 : decode cX0_sum 6 = .ok (.lload_n 3, 1) := by decide +kernel
theorem dX0_sum_7 : decode cX0_sum 7 = .ok (.invokevirtual 51, 3) := by decide +kernel
theorem dX0_sum_10 : decode cX0_sum 10 = .ok (.lcmp, 1) := by decide +kernel
theorem dX0_sum_11 : decode cX0_sum 11 = .ok (.ifCond .ge 12, 3) := by decide +kernel
theorem dX0_sum_14 : decode cX0_sum 14 = .ok (.aload_n 0, 1) := by decide +kernel
theorem dX0_sum_15 : decode cX0_sum 15 = .ok (.lload_n 3, 1) := by decide +kernel
theorem dX0_sum_16 : decode cX0_sum 16 = .ok (.lload_n 1, 1) := by decide +kernel
theorem dX0_sum_17 : decode cX0_sum 17 = .ok (.invokevirtual 82, 3) := by decide +kernel
theorem dX0_sum_20 : decode cX0_sum 20 = .ok (.goto 9, 3) := by decide +kernel
theorem dX0_sum_23 : decode cX0_sum 23 = .ok (.aload_n 0, 1) := by decide +kernel
theorem dX0_sum_24 : decode cX0_sum 24 = .ok (.lload_n 1, 1) := by decide +kernel
theorem dX0_sum_25 : decode cX0_sum 25 = .ok (.lload_n 3, 1) := by decide +kernel
theorem dX0_sum_26 : decode cX0_sum 26 = .ok (.invokevirtual 82, 3) := by decide +kernel
theorem dX0_sum_29 : decode cX0_sum 29 = .ok (.lreturn, 1) := by decide +kernel
set_option maxRecDepth 20000 in
theorem ggX0_wholeOf_X0_sizeOf : GoodIn wsX0_wholeOf wsX0_sizeOf := goodIn_r _ [7, 8, 9] (by decide +kernel) (by decide +kernel)
set_option maxRecDepth 20000 in
theorem gX0_wholeOf_X0_sizeOf : GoodIn wsX0_wholeOf (wsV RX0 51 RX0 yX0_sizeOf wsX0_sizeOf) := goodIn_app (goodIn_of _ (by decide +kernel)) ggX0_wholeOf_X0_sizeOf
set_option maxRecDepth 20000 in
theorem ggX0_wholeOf_X0_exponentOf : GoodIn wsX0_wholeOf wsX0_exponentOf := goodIn_r _ [13, 2, 14, 15, 16, 17] (by decide +kernel) (by decide +kernel)
set_option maxRecDepth 20000 in
theorem gX0_wholeOf_X0_exponentOf : GoodIn wsX0_wholeOf (wsV RX0 55 RX0 yX0_exponentOf wsX0_exponentOf) := goodIn_app (goodIn_of _ (by decide +kernel)) ggX0_wholeOf_X0_exponentOf
set_option maxRecDepth 20000 in
theorem ggX0_wholeOf_X0_wholeOfPart : GoodIn wsX0_wholeOf wsX0_wholeOfPart := goodIn_r _ [21, 22, 23, 3, 4, 5, 6, 7, 8, 9, 24, 25, 26] (by decide +kernel) (by decide +kernel)
set_option maxRecDepth 20000 in
theorem gX0_wholeOf_X0_wholeOfPart : GoodIn wsX0_wholeOf (wsV RX0 85 RX0 yX0_wholeOfPart wsX0_wholeOfPart) := goodIn_app (goodIn_of _ (by decide +kernel)) ggX0_wholeOf_X0_wholeOfPart
set_option maxRecDepth 20000 in
theorem ggX0_wholeOf_X0_wholeOfMixed : GoodIn wsX0_wholeOf wsX0_wholeOfMixed := goodIn_r _ [30, 3, 4, 5, 6, 7, 8, 9, 31, 32, 33, 34, 23, 35, 36, 37, 24, 25, 26] (by decide +kernel) (by decide +kernel)
set_option maxRecDepth 20000 in
theorem gX0_wholeOf_X0_wholeOfMixed : GoodIn wsX0_wholeOf (wsV RX0 88 RX0 yX0_wholeOfMixed wsX0_wholeOfMixed) := goodIn_app (goodIn_of _ (by decide +kernel)) ggX0_wholeOf_X0_wholeOfMixed
set_option maxRecDepth 20000 in
theorem ggX0_wholeOf_X0_withSideOf : GoodIn wsX0_wholeOf wsX0_withSideOf := goodIn_r _ [41, 8, 3, 4, 5, 6, 7, 9] (by decide +kernel) (by decide +kernel)
set_option maxRecDepth 20000 in
theorem gX0_wholeOf_X0_withSideOf : GoodIn wsX0_wholeOf (wsV RX0 66 RX0 yX0_withSideOf wsX0_withSideOf) := goodIn_app (goodIn_of _ (by decide +kernel)) ggX0_wholeOf_X0_withSideOf
theorem dX0_wholeOf_0 : decode cX0_wholeOf 0 = .ok (.aload_n 0, 1) := by decide +kernel
theorem dX0_wholeOf_1 : decode cX0_wholeOf 1 = .ok (.lload_n 1, 1) := by decide +kernel
theorem dX0_wholeOf_2 : decode cX0_wholeOf 2 = .ok (.invokevirtual 51, 3) := by decide +kernel
theorem dX0_wholeOf_5 : decode cX0_wholeOf 5 = .ok (.lstore 4, 2) := by decide +kernel
theorem dX0_wholeOf_7 : decode cX0_wholeOf 7 = .ok (.aload_n 0, 1) := by decide +kernel
theorem dX0_wholeOf_8 : decode cX0_wholeOf 8 = .ok (.lload 4, 2) := by decide +kernel
theorem dX0_wholeOf_10 : decode cX0_wholeOf 10 = .ok (.invokevirtual 55, 3) := by decide +kernel
theorem dX0_wholeOf_13 : decode cX0_wholeOf 13 = .ok (.aload_n 0, 1) := by decide +kernel
theorem dX0_wholeOf_14 : decode cX0_wholeOf 14 = .ok (.getfield 33, 3) := by decide +kernel
theorem dX0_wholeOf_17 : decode cX0_wholeOf 17 = .ok (.isub, 1) := by decide +kernel
theorem dX0_wholeOf_18 : decode cX0_wholeOf 18 = .ok (.istore 6, 2) := by decide +kernel
theorem dX0_wholeOf_20 : decode cX0_wholeOf 20 = .ok (.lload 4, 2) := by decide +kernel
theorem dX0_wholeOf_22 : decode cX0_wholeOf 22 = .ok (.lconst 0, 1) := by decide +kernel
theorem dX0_wholeOf_23 : decode cX0_wholeOf 23 = .ok (.lcmp, 1) := by decide +kernel
theorem dX0_wholeOf_24 : decode cX0_wholeOf 24 = .ok (.ifCond .eq 12, 3) := by decide +kernel
theorem dX0_wholeOf_27 : decode cX0_wholeOf 27 = .ok (.iload 6, 2) := by decide +kernel
theorem dX0_wholeOf_29 : decode cX0_wholeOf 29 = .ok (.aload_n 0, 1) := by decide +kernel
theorem dX0_wholeOf_30 : decode cX0_wholeOf 30 = .ok (.getfield 29, 3) := by decide +kernel
theorem dX0_wholeOf_33 : decode cX0_wholeOf 33 = .ok (.if_icmp .lt 5, 3) := by decide +kernel
theorem dX0_wholeOf_36 : decode cX0_wholeOf 36 = .ok (.lload_n 1, 1) := by decide +kernel
theorem dX0_wholeOf_37 : decode cX0_wholeOf 37 = .ok (.lreturn, 1) := by decide +kernel
theorem dX0_wholeOf_38 : decode cX0_wholeOf 38 = .ok (.iload 6, 2) := by decide +kernel
theorem dX0_wholeOf_40 : decode cX0_wholeOf 40 = .ok (.ifCond .ge 12, 3) := by decide +kernel
theorem dX0_wholeOf_43 : decode cX0_wholeOf 43 = .ok (.aload_n 0, 1) := by decide +kernel
theorem dX0_wholeOf_44 : decode cX0_wholeOf 44 = .ok (.lload_n 1, 1) := by decide +kernel
theorem dX0_wholeOf_45 : decode cX0_wholeOf 45 = .ok (.iload_n 3, 1) := by decide +kernel
theorem dX0_wholeOf_46 : decode cX0_wholeOf 46 = .ok (.invokevirtual 85, 3) := by decide +kernel
theorem dX0_wholeOf_49 : decode cX0_wholeOf 49 = .ok (.goto 16, 3) := by decide +kernel
theorem dX0_wholeOf_52 : decode cX0_wholeOf 52 = .ok (.aload_n 0, 1) := by decide +kernel
theorem dX0_wholeOf_53 : decode cX0_wholeOf 53 = .ok (.lload_n 1, 1) := by decide +kernel
theorem dX0_wholeOf_54 : decode cX0_wholeOf 54 = .ok (.iload_n 3, 1) := by decide +kernel
theorem dX0_wholeOf_55 : decode cX0_wholeOf 55 = .ok (.aload_n 0, 1) := by decide +kernel
theorem dX0_wholeOf_56 : decode cX0_wholeOf 56 = .ok (.getfield 29, 3) := by decide +kernel
theorem dX0_wholeOf_59 : decode cX0_wholeOf 59 = .ok (.iload 6, 2) := by decide +kernel
theorem dX0_wholeOf_61 : decode cX0_wholeOf 61 = .ok (.isub, 1) := by decide +kernel
theorem dX0_wholeOf_62 : decode cX0_wholeOf 62 = .ok (.invokevirtual 88, 3) := by decide +kernel
theorem dX0_wholeOf_65 : decode cX0_wholeOf 65 = .ok (.lstore 7, 2) := by decide +kernel
theorem dX0_wholeOf_67 : decode cX0_wholeOf 67 = .ok (.aload_n 0, 1) := by decide +kernel
theorem dX0_wholeOf_68 : decode cX0_wholeOf 68 = .ok (.lload 7, 2) := by decide +kernel
theorem dX0_wholeOf_70 : decode cX0_wholeOf 70 = .ok (.lload_n 1, 1) := by decide +kernel
theorem dX0_wholeOf_71 : decode cX0_wholeOf 71 = .ok (.invokevirtual 66, 3) := by decide +kernel
theorem dX0_wholeOf_74 : decode cX0_wholeOf 74 = .ok (.lreturn, 1) := by decide +kernel
theorem dX0_rankOf_0 : decode cX0_rankOf 0 = .ok (.lload_n 1, 1) := by decide +kernel
theorem dX0_rankOf_1 : decode cX0_rankOf 1 = .ok (.lconst 0, 1) := by decide +kernel
theorem dX0_rankOf_2 : decode cX0_rankOf 2 = .ok (.lcmp, 1) := by decide +kernel
theorem dX0_rankOf_3 : decode cX0_rankOf 3 = .ok (.ifCond .ge 16, 3) := by decide +kernel
theorem dX0_rankOf_6 : decode cX0_rankOf 6 = .ok (.lload_n 1, 1) := by decide +kernel
theorem dX0_rankOf_7 : decode cX0_rankOf 7 = .ok (.aload_n 0, 1) := by decide +kernel
theorem dX0_rankOf_8 : decode cX0_rankOf 8 = .ok (.getfield 36, 3) := by decide +kernel
theorem dX0_rankOf_11 : decode cX0_rankOf 11 = .ok (.ldc2_w 70, 3) := by decide +kernel
theorem dX0_rankOf_14 : decode cX0_rankOf 14 = .ok (.lxor, 1) := by decide +kernel
theorem dX0_rankOf_15 : decode cX0_rankOf 15 = .ok (.lxor, 1) := by decide +kernel
theorem dX0_rankOf_16 : decode cX0_rankOf 16 = .ok (.goto 4, 3) := by decide +kernel
theorem dX0_rankOf_19 : decode cX0_rankOf 19 = .ok (.lload_n 1, 1) := by decide +kernel
theorem dX0_rankOf_20 : decode cX0_rankOf 20 = .ok (.lreturn, 1) := by decide +kernel
theorem dX0_exponentOf_0 : decode cX0_exponentOf 0 = .ok (.iconst 1, 1) := by decide +kernel
theorem dX0_exponentOf_1 : decode cX0_exponentOf 1 = .ok (.lload_n 1, 1) := by decide +kernel
theorem dX0_exponentOf_2 : decode cX0_exponentOf 2 = .ok (.aload_n 0, 1) := by decide +kernel
theorem dX0_exponentOf_3 : decode cX0_exponentOf 3 = .ok (.getfield 29, 3) := by decide +kernel
theorem dX0_exponentOf_6 : decode cX0_exponentOf 6 = .ok (.lshr, 1) := by decide +kernel
theorem dX0_exponentOf_7 : decode cX0_exponentOf 7 = .ok (.l2i, 1) := by decide +kernel
theorem dX0_exponentOf_8 : decode cX0_exponentOf 8 = .ok (.invokestatic 92, 3) := by decide +kernel
theorem dX0_exponentOf_11 : decode cX0_exponentOf 11 = .ok (.ireturn, 1) := by decide +kernel
theorem dX0_significandOf_0 : decode cX0_significandOf 0 = .ok (.lload_n 1, 1) := by decide +kernel
theorem dX0_significandOf_1 : decode cX0_significandOf 1 = .ok (.aload_n 0, 1) := by decide +kernel
theorem dX0_significandOf_2 : decode cX0_significandOf 2 = .ok (.getfield 40, 3) := by decide +kernel
theorem dX0_significandOf_5 : decode cX0_significandOf 5 = .ok (.lconst 1, 1) := by decide +kernel
theorem dX0_significandOf_6 : decode cX0_significandOf 6 = .ok (.lsub, 1) := by decide +kernel
theorem dX0_significandOf_7 : decode cX0_significandOf 7 = .ok (.land, 1) := by decide +kernel
theorem dX0_significandOf_8 : decode cX0_significandOf 8 = .ok (.lstore_n 3, 1) := by decide +kernel
theorem dX0_significandOf_9 : decode cX0_significandOf 9 = .ok (.lload_n 1, 1) := by decide +kernel
theorem dX0_significandOf_10 : decode cX0_significandOf 10 = .ok (.aload_n 0, 1) := by decide +kernel
theorem dX0_significandOf_11 : decode cX0_significandOf 11 = .ok (.getfield 40, 3) := by decide +kernel
theorem dX0_significandOf_14 : decode cX0_significandOf 14 = .ok (.lcmp, 1) := by decide +kernel
theorem dX0_significandOf_15 : decode cX0_significandOf 15 = .ok (.ifCond .ge 7, 3) := by decide +kernel
theorem dX0_significandOf_18 : decode cX0_significandOf 18 = .ok (.lload_n 3, 1) := by decide +kernel
theorem dX0_significandOf_19 : decode cX0_significandOf 19 = .ok (.goto 9, 3) := by decide +kernel
theorem dX0_significandOf_22 : decode cX0_significandOf 22 = .ok (.lload_n 3, 1) := by decide +kernel
theorem dX0_significandOf_23 : decode cX0_significandOf 23 = .ok (.aload_n 0, 1) := by decide +kernel
theorem dX0_significandOf_24 : decode cX0_significandOf 24 = .ok (.getfield 40, 3) := by decide +kernel
theorem dX0_significandOf_27 : decode cX0_significandOf 27 = .ok (.lor, 1) := by decide +kernel
theorem dX0_significandOf_28 : decode cX0_significandOf 28 = .ok (.lreturn, 1) := by decide +kernel
set_option maxRecDepth 20000 in
theorem ggX0_sumByLarger_X0_sizeOf : GoodIn wsX0_sumByLarger wsX0_sizeOf := goodIn_r _ [6, 7, 8] (by decide +kernel) (by decide +kernel)
set_option maxRecDepth 20000 in
theorem gX0_sumByLarger_X0_sizeOf : GoodIn wsX0_sumByLarger (wsV RX0 51 RX0 yX0_sizeOf wsX0_sizeOf) := goodIn_app (goodIn_of _ (by decide +kernel)) ggX0_sumByLarger_X0_sizeOf
set_option maxRecDepth 20000 in
theorem ggX0_sumByLarger_X0_exponentOf : GoodIn wsX0_sumByLarger wsX0_exponentOf := goodIn_r _ [12, 13, 14, 15, 16, 17] (by decide +kernel) (by decide +kernel)
set_option maxRecDepth 20000 in
theorem gX0_sumByLarger_X0_exponentOf : GoodIn wsX0_sumByLarger (wsV RX0 55 RX0 yX0_exponentOf wsX0_exponentOf) := goodIn_app (goodIn_of _ (by decide +kernel)) ggX0_sumByLarger_X0_exponentOf
set_option maxRecDepth 20000 in
theorem ggX0_sumByLarger_X0_significandOf : GoodIn wsX0_sumByLarger wsX0_significandOf := goodIn_r _ [21, 22] (by decide +kernel) (by decide +kernel)
set_option maxRecDepth 20000 in
theorem gX0_sumByLarger_X0_significandOf : GoodIn wsX0_sumByLarger (wsV RX0 59 RX0 yX0_significandOf wsX0_significandOf) := goodIn_app (goodIn_of _ (by decide +kernel)) ggX0_sumByLarger_X0_significandOf
set_option maxRecDepth 20000 in
theorem ggX0_sumByLarger_X0_shiftedDown : GoodIn wsX0_sumByLarger wsX0_shiftedDown := goodIn_r _ [25] (by decide +kernel) (by decide +kernel)
set_option maxRecDepth 20000 in
theorem gX0_sumByLarger_X0_shiftedDown : GoodIn wsX0_sumByLarger (va_wsS RX0 98 yX0_shiftedDown wsX0_shiftedDown) := goodIn_app (goodIn_of _ (by decide +kernel)) ggX0_sumByLarger_X0_shiftedDown
set_option maxRecDepth 20000 in
theorem ggX0_sumByLarger_X0_sizeFrom : GoodIn wsX0_sumByLarger wsX0_sizeFrom := goodIn_r _ [29, 22, 30, 1, 13, 23, 24, 5, 25, 31, 32, 33, 34, 35, 36, 37, 38] (by decide +kernel) (by decide +kernel)
set_option maxRecDepth 20000 in
theorem gX0_sumByLarger_X0_sizeFrom : GoodIn wsX0_sumByLarger (wsV RX0 62 RX0 yX0_sizeFrom wsX0_sizeFrom) := goodIn_app (goodIn_of _ (by decide +kernel)) ggX0_sumByLarger_X0_sizeFrom
set_option maxRecDepth 20000 in
theorem ggX0_sumByLarger_X0_withSideOf : GoodIn wsX0_sumByLarger wsX0_withSideOf := goodIn_r _ [42, 7, 2, 3, 4, 5, 6, 8] (by decide +kernel) (by decide +kernel)
set_option maxRecDepth 20000 in
theorem gX0_sumByLarger_X0_withSideOf : GoodIn wsX0_sumByLarger (wsV RX0 66 RX0 yX0_withSideOf wsX0_withSideOf) := goodIn_app (goodIn_of _ (by decide +kernel)) ggX0_sumByLarger_X0_withSideOf
theorem dX0_sumByLarger_0 : decode cX0_sumByLarger 0 = .ok (.aload_n 0, 1) := by decide +kernel
theorem dX0_sumByLarger_1 : decode cX0_sumByLarger 1 = .ok (.lload_n 1, 1) := by decide +kernel
theorem dX0_sumByLarger_2 : decode cX0_sumByLarger 2 = .ok (.invokevirtual 51, 3) := by decide +kernel
theorem dX0_sumByLarger_5 : decode cX0_sumByLarger 5 = .ok (.lstore 5, 2) := by decide +kernel
theorem dX0_sumByLarger_7 : decode cX0_sumByLarger 7 = .ok (.lload 5, 2) := by decide +kernel
theorem dX0_sumByLarger_9 : decode cX0_sumByLarger 9 = .ok (.aload_n 0, 1) := by decide +kernel
theorem dX0_sumByLarger_10 : decode cX0_sumByLarger 10 = .ok (.getfield 48, 3) := by decide +kernel
theorem dX0_sumByLarger_13 : decode cX0_sumByLarger 13 = .ok (.lcmp, 1) := by decide +kernel
theorem dX0_sumByLarger_14 : decode cX0_sumByLarger 14 = .ok (.ifCond .ne 5, 3) := by decide +kernel
theorem dX0_sumByLarger_17 : decode cX0_sumByLarger 17 = .ok (.lload_n 1, 1) := by decide +kernel
theorem dX0_sumByLarger_18 : decode cX0_sumByLarger 18 = .ok (.lreturn, 1) := by decide +kernel
theorem dX0_sumByLarger_19 : decode cX0_sumByLarger 19 = .ok (.aload_n 0, 1) := by decide +kernel
theorem dX0_sumByLarger_20 : decode cX0_sumByLarger 20 = .ok (.lload_n 3, 1) := by decide +kernel
theorem dX0_sumByLarger_21 : decode cX0_sumByLarger 21 = .ok (.invokevirtual 51, 3) := by decide +kernel
theorem dX0_sumByLarger_24 : decode cX0_sumByLarger 24 = .ok (.lstore 7, 2) := by decide +kernel
theorem dX0_sumByLarger_26 : decode cX0_sumByLarger 26 = .ok (.aload_n 0, 1) := by decide +kernel
theorem dX0_sumByLarger_27 : decode cX0_sumByLarger 27 = .ok (.lload 5, 2) := by decide +kernel
theorem dX0_sumByLarger_29 : decode cX0_sumByLarger 29 = .ok (.invokevirtual 55, 3) := by decide +kernel
theorem dX0_sumByLarger_32 : decode cX0_sumByLarger 32 = .ok (.istore 9, 2) := by decide +kernel
theorem dX0_sumByLarger_34 : decode cX0_sumByLarger 34 = .ok (.aload_n 0, 1) := by decide +kernel
theorem dX0_sumByLarger_35 : decode cX0_sumByLarger 35 = .ok (.lload 5, 2) := by decide +kernel
theorem dX0_sumByLarger_37 : decode cX0_sumByLarger 37 = .ok (.invokevirtual 59, 3) := by decide +kernel
theorem dX0_sumByLarger_40 : decode cX0_sumByLarger 40 = .ok (.iconst 3, 1) := by decide +kernel
theorem dX0_sumByLarger_41 : decode cX0_sumByLarger 41 = .ok (.lshl, 1) := by decide +kernel
theorem dX0_sumByLarger_42 : decode cX0_sumByLarger 42 = .ok (.lstore 10, 2) := by decide +kernel
theorem dX0_sumByLarger_44 : decode cX0_sumByLarger 44 = .ok (.aload_n 0, 1) := by decide +kernel
theorem dX0_sumByLarger_45 : decode cX0_sumByLarger 45 = .ok (.lload 7, 2) := by decide +kernel
theorem dX0_sumByLarger_47 : decode cX0_sumByLarger 47 = .ok (.invokevirtual 59, 3) := by decide +kernel
theorem dX0_sumByLarger_50 : decode cX0_sumByLarger 50 = .ok (.iconst 3, 1) := by decide +kernel
theorem dX0_sumByLarger_51 : decode cX0_sumByLarger 51 = .ok (.lshl, 1) := by decide +kernel
theorem dX0_sumByLarger_52 : decode cX0_sumByLarger 52 = .ok (.iload 9, 2) := by decide +kernel
theorem dX0_sumByLarger_54 : decode cX0_sumByLarger 54 = .ok (.aload_n 0, 1) := by decide +kernel
theorem dX0_sumByLarger_55 : decode cX0_sumByLarger 55 = .ok (.lload 7, 2) := by decide +kernel
theorem dX0_sumByLarger_57 : decode cX0_sumByLarger 57 = .ok (.invokevirtual 55, 3) := by decide +kernel
theorem dX0_sumByLarger_60 : decode cX0_sumByLarger 60 = .ok (.isub, 1) := by decide +kernel
theorem dX0_sumByLarger_61 : decode cX0_sumByLarger 61 = .ok (.invokestatic 98, 3) := by decide +kernel
theorem dX0_sumByLarger_64 : decode cX0_sumByLarger 64 = .ok (.lstore 12, 2) := by decide +kernel
theorem dX0_sumByLarger_66 : decode cX0_sumByLarger 66 = .ok (.lload_n 1, 1) := by decide +kernel
theorem dX0_sumByLarger_67 : decode cX0_sumByLarger 67 = .ok (.lconst 0, 1) := by decide +kernel
theorem dX0_sumByLarger_68 : decode cX0_sumByLarger 68 = .ok (.lcmp, 1) := by decide +kernel
theorem dX0_sumByLarger_69 : decode cX0_sumByLarger 69 = .ok (.ifCond .ge 7, 3) := by decide +kernel
theorem dX0_sumByLarger_72 : decode cX0_sumByLarger 72 = .ok (.iconst 1, 1) := by decide +kernel
theorem dX0_sumByLarger_73 : decode cX0_sumByLarger 73 = .ok (.goto 4, 3) := by decide +kernel
theorem dX0_sumByLarger_76 : decode cX0_sumByLarger 76 = .ok (.iconst 0, 1) := by decide +kernel
theorem dX0_sumByLarger_77 : decode cX0_sumByLarger 77 = .ok (.lload_n 3, 1) := by decide +kernel
theorem dX0_sumByLarger_78 : decode cX0_sumByLarger 78 = .ok (.lconst 0, 1) := by decide +kernel
theorem dX0_sumByLarger_79 : decode cX0_sumByLarger 79 = .ok (.lcmp, 1) := by decide +kernel
theorem dX0_sumByLarger_80 : decode cX0_sumByLarger 80 = .ok (.ifCond .ge 7, 3) := by decide +kernel
theorem dX0_sumByLarger_83 : decode cX0_sumByLarger 83 = .ok (.iconst 1, 1) := by decide +kernel
theorem dX0_sumByLarger_84 : decode cX0_sumByLarger 84 = .ok (.goto 4, 3) := by decide +kernel
theorem dX0_sumByLarger_87 : decode cX0_sumByLarger 87 = .ok (.iconst 0, 1) := by decide +kernel
theorem dX0_sumByLarger_88 : decode cX0_sumByLarger 88 = .ok (.if_icmp .ne 7, 3) := by decide +kernel
theorem dX0_sumByLarger_91 : decode cX0_sumByLarger 91 = .ok (.iconst 1, 1) := by decide +kernel
theorem dX0_sumByLarger_92 : decode cX0_sumByLarger 92 = .ok (.goto 4, 3) := by decide +kernel
theorem dX0_sumByLarger_95 : decode cX0_sumByLarger 95 = .ok (.iconst 0, 1) := by decide +kernel
theorem dX0_sumByLarger_96 : decode cX0_sumByLarger 96 = .ok (.istore 14, 2) := by decide +kernel
theorem dX0_sumByLarger_98 : decode cX0_sumByLarger 98 = .ok (.iload 14, 2) := by decide +kernel
theorem dX0_sumByLarger_100 : decode cX0_sumByLarger 100 = .ok (.ifCond .eq 11, 3) := by decide +kernel
theorem dX0_sumByLarger_103 : decode cX0_sumByLarger 103 = .ok (.lload 10, 2) := by decide +kernel
theorem dX0_sumByLarger_105 : decode cX0_sumByLarger 105 = .ok (.lload 12, 2) := by decide +kernel
theorem dX0_sumByLarger_107 : decode cX0_sumByLarger 107 = .ok (.ladd, 1) := by decide +kernel
theorem dX0_sumByLarger_108 : decode cX0_sumByLarger 108 = .ok (.goto 8, 3) := by decide +kernel
theorem dX0_sumByLarger_111 : decode cX0_sumByLarger 111 = .ok (.lload 10, 2) := by decide +kernel
theorem dX0_sumByLarger_113 : decode cX0_sumByLarger 113 = .ok (.lload 12, 2) := by decide +kernel
theorem dX0_sumByLarger_115 : decode cX0_sumByLarger 115 = .ok (.lsub, 1) := by decide +kernel
theorem dX0_sumByLarger_116 : decode cX0_sumByLarger 116 = .ok (.lstore 15, 2) := by decide +kernel
theorem dX0_sumByLarger_118 : decode cX0_sumByLarger 118 = .ok (.lload 15, 2) := by decide +kernel
theorem dX0_sumByLarger_120 : decode cX0_sumByLarger 120 = .ok (.lconst 0, 1) := by decide +kernel
theorem dX0_sumByLarger_121 : decode cX0_sumByLarger 121 = .ok (.lcmp, 1) := by decide +kernel
theorem dX0_sumByLarger_122 : decode cX0_sumByLarger 122 = .ok (.ifCond .ne 14, 3) := by decide +kernel
theorem dX0_sumByLarger_125 : decode cX0_sumByLarger 125 = .ok (.iload 14, 2) := by decide +kernel
theorem dX0_sumByLarger_127 : decode cX0_sumByLarger 127 = .ok (.ifCond .eq 7, 3) := by decide +kernel
theorem dX0_sumByLarger_130 : decode cX0_sumByLarger 130 = .ok (.lload_n 1, 1) := by decide +kernel
theorem dX0_sumByLarger_131 : decode cX0_sumByLarger 131 = .ok (.goto 4, 3) := by decide +kernel
theorem dX0_sumByLarger_134 : decode cX0_sumByLarger 134 = .ok (.lconst 0, 1) := by decide +kernel
theorem dX0_sumByLarger_135 : decode cX0_sumByLarger 135 = .ok (.lreturn, 1) := by decide +kernel
theorem dX0_sumByLarger_136 : decode cX0_sumByLarger 136 = .ok (.aload_n 0, 1) := by decide +kernel
theorem dX0_sumByLarger_137 : decode cX0_sumByLarger 137 = .ok (.aload_n 0, 1) := by decide +kernel
theorem dX0_sumByLarger_138 : decode cX0_sumByLarger 138 = .ok (.lload 15, 2) := by decide +kernel
theorem dX0_sumByLarger_140 : decode cX0_sumByLarger 140 = .ok (.iload 9, 2) := by decide +kernel
theorem dX0_sumByLarger_142 : decode cX0_sumByLarger 142 = .ok (.invokevirtual 62, 3) := by decide +kernel
theorem dX0_sumByLarger_145 : decode cX0_sumByLarger 145 = .ok (.lload_n 1, 1) := by decide +kernel
theorem dX0_sumByLarger_146 : decode cX0_sumByLarger 146 = .ok (.invokevirtual 66, 3) := by decide +kernel
theorem dX0_sumByLarger_149 : decode cX0_sumByLarger 149 = .ok (.lreturn, 1) := by decide +kernel
theorem dX0_shiftedDown_0 : decode cX0_shiftedDown 0 = .ok (.iload_n 2, 1) := by decide +kernel
theorem dX0_shiftedDown_1 : decode cX0_shiftedDown 1 = .ok (.bipush 64, 2) := by decide +kernel
theorem dX0_shiftedDown_3 : decode cX0_shiftedDown 3 = .ok (.if_icmp .lt 15, 3) := by decide +kernel
theorem dX0_shiftedDown_6 : decode cX0_shiftedDown 6 = .ok (.lload_n 0, 1) := by decide +kernel
theorem dX0_shiftedDown_7 : decode cX0_shiftedDown 7 = .ok (.lconst 0, 1) := by decide +kernel
theorem dX0_shiftedDown_8 : decode cX0_shiftedDown 8 = .ok (.lcmp, 1) := by decide +kernel
theorem dX0_shiftedDown_9 : decode cX0_shiftedDown 9 = .ok (.ifCond .ne 7, 3) := by decide +kernel
theorem dX0_shiftedDown_12 : decode cX0_shiftedDown 12 = .ok (.lconst 0, 1) := by decide +kernel
theorem dX0_shiftedDown_13 : decode cX0_shiftedDown 13 = .ok (.goto 4, 3) := by decide +kernel
theorem dX0_shiftedDown_16 : decode cX0_shiftedDown 16 = .ok (.lconst 1, 1) := by decide +kernel
theorem dX0_shiftedDown_17 : decode cX0_shiftedDown 17 = .ok (.lreturn, 1) := by decide +kernel
theorem dX0_shiftedDown_18 : decode cX0_shiftedDown 18 = .ok (.lload_n 0, 1) := by decide +kernel
theorem dX0_shiftedDown_19 : decode cX0_shiftedDown 19 = .ok (.iload_n 2, 1) := by decide +kernel
theorem dX0_shiftedDown_20 : decode cX0_shiftedDown 20 = .ok (.lshr, 1) := by decide +kernel
theorem dX0_shiftedDown_21 : decode cX0_shiftedDown 21 = .ok (.lstore_n 3, 1) := by decide +kernel
theorem dX0_shiftedDown_22 : decode cX0_shiftedDown 22 = .ok (.lload_n 3, 1) := by decide +kernel
theorem dX0_shiftedDown_23 : decode cX0_shiftedDown 23 = .ok (.iload_n 2, 1) := by decide +kernel
theorem dX0_shiftedDown_24 : decode cX0_shiftedDown 24 = .ok (.lshl, 1) := by decide +kernel
theorem dX0_shiftedDown_25 : decode cX0_shiftedDown 25 = .ok (.lload_n 0, 1) := by decide +kernel
theorem dX0_shiftedDown_26 : decode cX0_shiftedDown 26 = .ok (.lcmp, 1) := by decide +kernel
theorem dX0_shiftedDown_27 : decode cX0_shiftedDown 27 = .ok (.ifCond .ne 7, 3) := by decide +kernel
theorem dX0_shiftedDown_30 : decode cX0_shiftedDown 30 = .ok (.lload_n 3, 1) := by decide +kernel
theorem dX0_shiftedDown_31 : decode cX0_shiftedDown 31 = .ok (.goto 6, 3) := by decide +kernel
theorem dX0_shiftedDown_34 : decode cX0_shiftedDown 34 = .ok (.lload_n 3, 1) := by decide +kernel
theorem dX0_shiftedDown_35 : decode cX0_shiftedDown 35 = .ok (.lconst 1, 1) := by decide +kernel
theorem dX0_shiftedDown_36 : decode cX0_shiftedDown 36 = .ok (.lor, 1) := by decide +kernel
theorem dX0_shiftedDown_37 : decode cX0_shiftedDown 37 = .ok (.lreturn, 1) := by decide +kernel
set_option maxRecDepth 20000 in
theorem ggX0_sizeFrom_X0_shiftedDown : GoodIn wsX0_sizeFrom wsX0_shiftedDown := goodIn_r _ [8] (by decide +kernel) (by decide +kernel)
set_option maxRecDepth 20000 in
theorem gX0_sizeFrom_X0_shiftedDown : GoodIn wsX0_sizeFrom (va_wsS RX0 98 yX0_shiftedDown wsX0_shiftedDown) := goodIn_app (goodIn_of _ (by decide +kernel)) ggX0_sizeFrom_X0_shiftedDown
set_option maxRecDepth 20000 in
theorem ggX0_sizeFrom_X0_roundedOff : GoodIn wsX0_sizeFrom wsX0_roundedOff := goodIn_r _ [11, 12, 13, 14, 15, 7, 16] (by decide +kernel) (by decide +kernel)
set_option maxRecDepth 20000 in
theorem gX0_sizeFrom_X0_roundedOff : GoodIn wsX0_sizeFrom (va_wsS RX0 101 yX0_roundedOff wsX0_roundedOff) := goodIn_app (goodIn_of _ (by decide +kernel)) ggX0_sizeFrom_X0_roundedOff
theorem dX0_sizeFrom_0 : decode cX0_sizeFrom 0 = .ok (.aload_n 0, 1) := by decide +kernel
theorem dX0_sizeFrom_1 : decode cX0_sizeFrom 1 = .ok (.getfield 40, 3) := by decide +kernel
theorem dX0_sizeFrom_4 : decode cX0_sizeFrom 4 = .ok (.iconst 3, 1) := by decide +kernel
theorem dX0_sizeFrom_5 : decode cX0_sizeFrom 5 = .ok (.lshl, 1) := by decide +kernel
theorem dX0_sizeFrom_6 : decode cX0_sizeFrom 6 = .ok (.lstore 4, 2) := by decide +kernel
theorem dX0_sizeFrom_8 : decode cX0_sizeFrom 8 = .ok (.lload_n 1, 1) := by decide +kernel
theorem dX0_sizeFrom_9 : decode cX0_sizeFrom 9 = .ok (.lstore 6, 2) := by decide +kernel
theorem dX0_sizeFrom_11 : decode cX0_sizeFrom 11 = .ok (.iload_n 3, 1) := by decide +kernel
theorem dX0_sizeFrom_12 : decode cX0_sizeFrom 12 = .ok (.istore 8, 2) := by decide +kernel
theorem dX0_sizeFrom_14 : decode cX0_sizeFrom 14 = .ok (.lload 6, 2) := by decide +kernel
theorem dX0_sizeFrom_16 : decode cX0_sizeFrom 16 = .ok (.lload 4, 2) := by decide +kernel
theorem dX0_sizeFrom_18 : decode cX0_sizeFrom 18 = .ok (.iconst 1, 1) := by decide +kernel
theorem dX0_sizeFrom_19 : decode cX0_sizeFrom 19 = .ok (.lshl, 1) := by decide +kernel
theorem dX0_sizeFrom_20 : decode cX0_sizeFrom 20 = .ok (.lcmp, 1) := by decide +kernel
theorem dX0_sizeFrom_21 : decode cX0_sizeFrom 21 = .ok (.ifCond .lt 14, 3) := by decide +kernel
theorem dX0_sizeFrom_24 : decode cX0_sizeFrom 24 = .ok (.lload 6, 2) := by decide +kernel
theorem dX0_sizeFrom_26 : decode cX0_sizeFrom 26 = .ok (.iconst 1, 1) := by decide +kernel
theorem dX0_sizeFrom_27 : decode cX0_sizeFrom 27 = .ok (.invokestatic 98, 3) := by decide +kernel
theorem dX0_sizeFrom_30 : decode cX0_sizeFrom 30 = .ok (.lstore 6, 2) := by decide +kernel
theorem dX0_sizeFrom_32 : decode cX0_sizeFrom 32 = .ok (.iinc 8 1, 3) := by decide +kernel
theorem dX0_sizeFrom_35 : decode cX0_sizeFrom 35 = .ok (.iconst 0, 1) := by decide +kernel
theorem dX0_sizeFrom_36 : decode cX0_sizeFrom 36 = .ok (.istore 9, 2) := by decide +kernel
theorem dX0_sizeFrom_38 : decode cX0_sizeFrom 38 = .ok (.iload 9, 2) := by decide +kernel
theorem dX0_sizeFrom_40 : decode cX0_sizeFrom 40 = .ok (.bipush 64, 2) := by decide +kernel
theorem dX0_sizeFrom_42 : decode cX0_sizeFrom 42 = .ok (.if_icmp .ge 32, 3) := by decide +kernel
theorem dX0_sizeFrom_45 : decode cX0_sizeFrom 45 = .ok (.lload 6, 2) := by decide +kernel
theorem dX0_sizeFrom_47 : decode cX0_sizeFrom 47 = .ok (.lload 4, 2) := by decide +kernel
theorem dX0_sizeFrom_49 : decode cX0_sizeFrom 49 = .ok (.lcmp, 1) := by decide +kernel
theorem dX0_sizeFrom_50 : decode cX0_sizeFrom 50 = .ok (.ifCond .ge 24, 3) := by decide +kernel
theorem dX0_sizeFrom_53 : decode cX0_sizeFrom 53 = .ok (.iload 8, 2) := by decide +kernel
theorem dX0_sizeFrom_55 : decode cX0_sizeFrom 55 = .ok (.iconst 1, 1) := by decide +kernel
theorem dX0_sizeFrom_56 : decode cX0_sizeFrom 56 = .ok (.if_icmp .le 18, 3) := by decide +kernel
theorem dX0_sizeFrom_59 : decode cX0_sizeFrom 59 = .ok (.lload 6, 2) := by decide +kernel
theorem dX0_sizeFrom_61 : decode cX0_sizeFrom 61 = .ok (.iconst 1, 1) := by decide +kernel
theorem dX0_sizeFrom_62 : decode cX0_sizeFrom 62 = .ok (.lshl, 1) := by decide +kernel
theorem dX0_sizeFrom_63 : decode cX0_sizeFrom 63 = .ok (.lstore 6, 2) := by decide +kernel
theorem dX0_sizeFrom_65 : decode cX0_sizeFrom 65 = .ok (.iinc 8 (-1), 3) := by decide +kernel
theorem dX0_sizeFrom_68 : decode cX0_sizeFrom 68 = .ok (.iinc 9 1, 3) := by decide +kernel
theorem dX0_sizeFrom_71 : decode cX0_sizeFrom 71 = .ok (.goto (-33), 3) := by decide +kernel
theorem dX0_sizeFrom_74 : decode cX0_sizeFrom 74 = .ok (.iload 8, 2) := by decide +kernel
theorem dX0_sizeFrom_76 : decode cX0_sizeFrom 76 = .ok (.iconst 2, 1) := by decide +kernel
theorem dX0_sizeFrom_77 : decode cX0_sizeFrom 77 = .ok (.aload_n 0, 1) := by decide +kernel
theorem dX0_sizeFrom_78 : decode cX0_sizeFrom 78 = .ok (.getfield 33, 3) := by decide +kernel
theorem dX0_sizeFrom_81 : decode cX0_sizeFrom 81 = .ok (.imul, 1) := by decide +kernel
theorem dX0_sizeFrom_82 : decode cX0_sizeFrom 82 = .ok (.if_icmp .le 8, 3) := by decide +kernel
theorem dX0_sizeFrom_85 : decode cX0_sizeFrom 85 = .ok (.aload_n 0, 1) := by decide +kernel
theorem dX0_sizeFrom_86 : decode cX0_sizeFrom 86 = .ok (.getfield 48, 3) := by decide +kernel
theorem dX0_sizeFrom_89 : decode cX0_sizeFrom 89 = .ok (.lreturn, 1) := by decide +kernel
theorem dX0_sizeFrom_90 : decode cX0_sizeFrom 90 = .ok (.iload 8, 2) := by decide +kernel
theorem dX0_sizeFrom_92 : decode cX0_sizeFrom 92 = .ok (.i2l, 1) := by decide +kernel
theorem dX0_sizeFrom_93 : decode cX0_sizeFrom 93 = .ok (.lconst 1, 1) := by decide +kernel
theorem dX0_sizeFrom_94 : decode cX0_sizeFrom 94 = .ok (.lsub, 1) := by decide +kernel
theorem dX0_sizeFrom_95 : decode cX0_sizeFrom 95 = .ok (.aload_n 0, 1) := by decide +kernel
theorem dX0_sizeFrom_96 : decode cX0_sizeFrom 96 = .ok (.getfield 29, 3) := by decide +kernel
theorem dX0_sizeFrom_99 : decode cX0_sizeFrom 99 = .ok (.lshl, 1) := by decide +kernel
theorem dX0_sizeFrom_100 : decode cX0_sizeFrom 100 = .ok (.lload 6, 2) := by decide +kernel
theorem dX0_sizeFrom_102 : decode cX0_sizeFrom 102 = .ok (.invokestatic 101, 3) := by decide +kernel
theorem dX0_sizeFrom_105 : decode cX0_sizeFrom 105 = .ok (.ladd, 1) := by decide +kernel
theorem dX0_sizeFrom_106 : decode cX0_sizeFrom 106 = .ok (.lreturn, 1) := by decide +kernel
set_option maxRecDepth 20000 in
theorem ggX0_roundedOff_X0_isRoundedUp : GoodIn wsX0_roundedOff wsX0_isRoundedUp := goodIn_r _ [6] (by decide +kernel) (by decide +kernel)
set_option maxRecDepth 20000 in
theorem gX0_roundedOff_X0_isRoundedUp : GoodIn wsX0_roundedOff (va_wsS RX0 108 yX0_isRoundedUp wsX0_isRoundedUp) := goodIn_app (goodIn_of _ (by decide +kernel)) ggX0_roundedOff_X0_isRoundedUp
theorem dX0_roundedOff_0 : decode cX0_roundedOff 0 = .ok (.lload_n 0, 1) := by decide +kernel
theorem dX0_roundedOff_1 : decode cX0_roundedOff 1 = .ok (.iconst 3, 1) := by decide +kernel
theorem dX0_roundedOff_2 : decode cX0_roundedOff 2 = .ok (.lshr, 1) := by decide +kernel
theorem dX0_roundedOff_3 : decode cX0_roundedOff 3 = .ok (.lstore_n 2, 1) := by decide +kernel
theorem dX0_roundedOff_4 : decode cX0_roundedOff 4 = .ok (.lload_n 0, 1) := by decide +kernel
theorem dX0_roundedOff_5 : decode cX0_roundedOff 5 = .ok (.ldc2_w 104, 3) := by decide +kernel
theorem dX0_roundedOff_8 : decode cX0_roundedOff 8 = .ok (.land, 1) := by decide +kernel
theorem dX0_roundedOff_9 : decode cX0_roundedOff 9 = .ok (.ldc2_w 106, 3) := by decide +kernel
theorem dX0_roundedOff_12 : decode cX0_roundedOff 12 = .ok (.lload_n 2, 1) := by decide +kernel
theorem dX0_roundedOff_13 : decode cX0_roundedOff 13 = .ok (.invokestatic 108, 3) := by decide +kernel
theorem dX0_roundedOff_16 : decode cX0_roundedOff 16 = .ok (.ifCond .eq 9, 3) := by decide +kernel
theorem dX0_roundedOff_19 : decode cX0_roundedOff 19 = .ok (.lload_n 2, 1) := by decide +kernel
theorem dX0_roundedOff_20 : decode cX0_roundedOff 20 = .ok (.lconst 1, 1) := by decide +kernel
theorem dX0_roundedOff_21 : decode cX0_roundedOff 21 = .ok (.ladd, 1) := by decide +kernel
theorem dX0_roundedOff_22 : decode cX0_roundedOff 22 = .ok (.goto 4, 3) := by decide +kernel
theorem dX0_roundedOff_25 : decode cX0_roundedOff 25 = .ok (.lload_n 2, 1) := by decide +kernel
theorem dX0_roundedOff_26 : decode cX0_roundedOff 26 = .ok (.lreturn, 1) := by decide +kernel
theorem dX0_isRoundedUp_0 : decode cX0_isRoundedUp 0 = .ok (.lload_n 0, 1) := by decide +kernel
theorem dX0_isRoundedUp_1 : decode cX0_isRoundedUp 1 = .ok (.lload_n 2, 1) := by decide +kernel
theorem dX0_isRoundedUp_2 : decode cX0_isRoundedUp 2 = .ok (.lcmp, 1) := by decide +kernel
theorem dX0_isRoundedUp_3 : decode cX0_isRoundedUp 3 = .ok (.ifCond .gt 18, 3) := by decide +kernel
theorem dX0_isRoundedUp_6 : decode cX0_isRoundedUp 6 = .ok (.lload_n 0, 1) := by decide +kernel
theorem dX0_isRoundedUp_7 : decode cX0_isRoundedUp 7 = .ok (.lload_n 2, 1) := by decide +kernel
theorem dX0_isRoundedUp_8 : decode cX0_isRoundedUp 8 = .ok (.lcmp, 1) := by decide +kernel
theorem dX0_isRoundedUp_9 : decode cX0_isRoundedUp 9 = .ok (.ifCond .ne 16, 3) := by decide +kernel
theorem dX0_isRoundedUp_12 : decode cX0_isRoundedUp 12 = .ok (.lload 4, 2) := by decide +kernel
theorem dX0_isRoundedUp_14 : decode cX0_isRoundedUp 14 = .ok (.lconst 1, 1) := by decide +kernel
theorem dX0_isRoundedUp_15 : decode cX0_isRoundedUp 15 = .ok (.land, 1) := by decide +kernel
theorem dX0_isRoundedUp_16 : decode cX0_isRoundedUp 16 = .ok (.lconst 1, 1) := by decide +kernel
theorem dX0_isRoundedUp_17 : decode cX0_isRoundedUp 17 = .ok (.lcmp, 1) := by decide +kernel
theorem dX0_isRoundedUp_18 : decode cX0_isRoundedUp 18 = .ok (.ifCond .ne 7, 3) := by decide +kernel
theorem dX0_isRoundedUp_21 : decode cX0_isRoundedUp 21 = .ok (.iconst 1, 1) := by decide +kernel
theorem dX0_isRoundedUp_22 : decode cX0_isRoundedUp 22 = .ok (.goto 4, 3) := by decide +kernel
theorem dX0_isRoundedUp_25 : decode cX0_isRoundedUp 25 = .ok (.iconst 0, 1) := by decide +kernel
theorem dX0_isRoundedUp_26 : decode cX0_isRoundedUp 26 = .ok (.ireturn, 1) := by decide +kernel
set_option maxRecDepth 20000 in
theorem ggX0_wholeOfPart_X0_sizeOf : GoodIn wsX0_wholeOfPart wsX0_sizeOf := goodIn_r _ [7, 8, 9] (by decide +kernel) (by decide +kernel)
set_option maxRecDepth 20000 in
theorem gX0_wholeOfPart_X0_sizeOf : GoodIn wsX0_wholeOfPart (wsV RX0 51 RX0 yX0_sizeOf wsX0_sizeOf) := goodIn_app (goodIn_of _ (by decide +kernel)) ggX0_wholeOfPart_X0_sizeOf
set_option maxRecDepth 20000 in
theorem ggX0_wholeOfPart_X0_growsBy : GoodIn wsX0_wholeOfPart wsX0_growsBy := goodIn_r _ [12] (by decide +kernel) (by decide +kernel)
set_option maxRecDepth 20000 in
theorem gX0_wholeOfPart_X0_growsBy : GoodIn wsX0_wholeOfPart (va_wsS RX0 112 yX0_growsBy wsX0_growsBy) := goodIn_app (goodIn_of _ (by decide +kernel)) ggX0_wholeOfPart_X0_growsBy
theorem dX0_wholeOfPart_0 : decode cX0_wholeOfPart 0 = .ok (.aload_n 0, 1) := by decide +kernel
theorem dX0_wholeOfPart_1 : decode cX0_wholeOfPart 1 = .ok (.getfield 43, 3) := by decide +kernel
theorem dX0_wholeOfPart_4 : decode cX0_wholeOfPart 4 = .ok (.aload_n 0, 1) := by decide +kernel
theorem dX0_wholeOfPart_5 : decode cX0_wholeOfPart 5 = .ok (.getfield 40, 3) := by decide +kernel
theorem dX0_wholeOfPart_8 : decode cX0_wholeOfPart 8 = .ok (.lsub, 1) := by decide +kernel
theorem dX0_wholeOfPart_9 : decode cX0_wholeOfPart 9 = .ok (.lstore 4, 2) := by decide +kernel
theorem dX0_wholeOfPart_11 : decode cX0_wholeOfPart 11 = .ok (.iload_n 3, 1) := by decide +kernel
theorem dX0_wholeOfPart_12 : decode cX0_wholeOfPart 12 = .ok (.iconst 2, 1) := by decide +kernel
theorem dX0_wholeOfPart_13 : decode cX0_wholeOfPart 13 = .ok (.if_icmp .ne 22, 3) := by decide +kernel
theorem dX0_wholeOfPart_16 : decode cX0_wholeOfPart 16 = .ok (.aload_n 0, 1) := by decide +kernel
theorem dX0_wholeOfPart_17 : decode cX0_wholeOfPart 17 = .ok (.lload_n 1, 1) := by decide +kernel
theorem dX0_wholeOfPart_18 : decode cX0_wholeOfPart 18 = .ok (.invokevirtual 51, 3) := by decide +kernel
theorem dX0_wholeOfPart_21 : decode cX0_wholeOfPart 21 = .ok (.lload 4, 2) := by decide +kernel
theorem dX0_wholeOfPart_23 : decode cX0_wholeOfPart 23 = .ok (.lcmp, 1) := by decide +kernel
theorem dX0_wholeOfPart_24 : decode cX0_wholeOfPart 24 = .ok (.ifCond .le 7, 3) := by decide +kernel
theorem dX0_wholeOfPart_27 : decode cX0_wholeOfPart 27 = .ok (.iconst 1, 1) := by decide +kernel
theorem dX0_wholeOfPart_28 : decode cX0_wholeOfPart 28 = .ok (.goto 12, 3) := by decide +kernel
theorem dX0_wholeOfPart_31 : decode cX0_wholeOfPart 31 = .ok (.iconst 0, 1) := by decide +kernel
theorem dX0_wholeOfPart_32 : decode cX0_wholeOfPart 32 = .ok (.goto 8, 3) := by decide +kernel
theorem dX0_wholeOfPart_35 : decode cX0_wholeOfPart 35 = .ok (.iload_n 3, 1) := by decide +kernel
theorem dX0_wholeOfPart_36 : decode cX0_wholeOfPart 36 = .ok (.lload_n 1, 1) := by decide +kernel
theorem dX0_wholeOfPart_37 : decode cX0_wholeOfPart 37 = .ok (.invokestatic 112, 3) := by decide +kernel
theorem dX0_wholeOfPart_40 : decode cX0_wholeOfPart 40 = .ok (.istore 6, 2) := by decide +kernel
theorem dX0_wholeOfPart_42 : decode cX0_wholeOfPart 42 = .ok (.iload 6, 2) := by decide +kernel
theorem dX0_wholeOfPart_44 : decode cX0_wholeOfPart 44 = .ok (.ifCond .eq 10, 3) := by decide +kernel
theorem dX0_wholeOfPart_47 : decode cX0_wholeOfPart 47 = .ok (.aload_n 0, 1) := by decide +kernel
theorem dX0_wholeOfPart_48 : decode cX0_wholeOfPart 48 = .ok (.getfield 43, 3) := by decide +kernel
theorem dX0_wholeOfPart_51 : decode cX0_wholeOfPart 51 = .ok (.goto 4, 3) := by decide +kernel
theorem dX0_wholeOfPart_54 : decode cX0_wholeOfPart 54 = .ok (.lconst 0, 1) := by decide +kernel
theorem dX0_wholeOfPart_55 : decode cX0_wholeOfPart 55 = .ok (.lreturn, 1) := by decide +kernel
set_option maxRecDepth 20000 in
theorem ggX0_wholeOfMixed_X0_sizeOf : GoodIn wsX0_wholeOfMixed wsX0_sizeOf := goodIn_r _ [5, 6, 7] (by decide +kernel) (by decide +kernel)
set_option maxRecDepth 20000 in
theorem gX0_wholeOfMixed_X0_sizeOf : GoodIn wsX0_wholeOfMixed (wsV RX0 51 RX0 yX0_sizeOf wsX0_sizeOf) := goodIn_app (goodIn_of _ (by decide +kernel)) ggX0_wholeOfMixed_X0_sizeOf
set_option maxRecDepth 20000 in
theorem ggX0_wholeOfMixed_X0_significandOf : GoodIn wsX0_wholeOfMixed wsX0_significandOf := goodIn_r _ [11, 12] (by decide +kernel) (by decide +kernel)
set_option maxRecDepth 20000 in
theorem gX0_wholeOfMixed_X0_significandOf : GoodIn wsX0_wholeOfMixed (wsV RX0 59 RX0 yX0_significandOf wsX0_significandOf) := goodIn_app (goodIn_of _ (by decide +kernel)) ggX0_wholeOfMixed_X0_significandOf
set_option maxRecDepth 20000 in
theorem ggX0_wholeOfMixed_X0_isRoundedUp : GoodIn wsX0_wholeOfMixed wsX0_isRoundedUp := goodIn_r _ [15] (by decide +kernel) (by decide +kernel)
set_option maxRecDepth 20000 in
theorem gX0_wholeOfMixed_X0_isRoundedUp : GoodIn wsX0_wholeOfMixed (va_wsS RX0 108 yX0_isRoundedUp wsX0_isRoundedUp) := goodIn_app (goodIn_of _ (by decide +kernel)) ggX0_wholeOfMixed_X0_isRoundedUp
set_option maxRecDepth 20000 in
theorem ggX0_wholeOfMixed_X0_growsBy : GoodIn wsX0_wholeOfMixed wsX0_growsBy := goodIn_r _ [18] (by decide +kernel) (by decide +kernel)
set_option maxRecDepth 20000 in
theorem gX0_wholeOfMixed_X0_growsBy : GoodIn wsX0_wholeOfMixed (va_wsS RX0 112 yX0_growsBy wsX0_growsBy) := goodIn_app (goodIn_of _ (by decide +kernel)) ggX0_wholeOfMixed_X0_growsBy
theorem dX0_wholeOfMixed_0 : decode cX0_wholeOfMixed 0 = .ok (.aload_n 0, 1) := by decide +kernel
theorem dX0_wholeOfMixed_1 : decode cX0_wholeOfMixed 1 = .ok (.lload_n 1, 1) := by decide +kernel
theorem dX0_wholeOfMixed_2 : decode cX0_wholeOfMixed 2 = .ok (.invokevirtual 51, 3) := by decide +kernel
theorem dX0_wholeOfMixed_5 : decode cX0_wholeOfMixed 5 = .ok (.lstore 5, 2) := by decide +kernel
theorem dX0_wholeOfMixed_7 : decode cX0_wholeOfMixed 7 = .ok (.lconst 1, 1) := by decide +kernel
theorem dX0_wholeOfMixed_8 : decode cX0_wholeOfMixed 8 = .ok (.iload 4, 2) := by decide +kernel
theorem dX0_wholeOfMixed_10 : decode cX0_wholeOfMixed 10 = .ok (.lshl, 1) := by decide +kernel
theorem dX0_wholeOfMixed_11 : decode cX0_wholeOfMixed 11 = .ok (.lstore 7, 2) := by decide +kernel
theorem dX0_wholeOfMixed_13 : decode cX0_wholeOfMixed 13 = .ok (.lload 5, 2) := by decide +kernel
theorem dX0_wholeOfMixed_15 : decode cX0_wholeOfMixed 15 = .ok (.lload 7, 2) := by decide +kernel
theorem dX0_wholeOfMixed_17 : decode cX0_wholeOfMixed 17 = .ok (.lconst 1, 1) := by decide +kernel
theorem dX0_wholeOfMixed_18 : decode cX0_wholeOfMixed 18 = .ok (.lsub, 1) := by decide +kernel
theorem dX0_wholeOfMixed_19 : decode cX0_wholeOfMixed 19 = .ok (.land, 1) := by decide +kernel
theorem dX0_wholeOfMixed_20 : decode cX0_wholeOfMixed 20 = .ok (.lstore 9, 2) := by decide +kernel
theorem dX0_wholeOfMixed_22 : decode cX0_wholeOfMixed 22 = .ok (.lload 5, 2) := by decide +kernel
theorem dX0_wholeOfMixed_24 : decode cX0_wholeOfMixed 24 = .ok (.lload 9, 2) := by decide +kernel
theorem dX0_wholeOfMixed_26 : decode cX0_wholeOfMixed 26 = .ok (.lsub, 1) := by decide +kernel
theorem dX0_wholeOfMixed_27 : decode cX0_wholeOfMixed 27 = .ok (.lstore 11, 2) := by decide +kernel
theorem dX0_wholeOfMixed_29 : decode cX0_wholeOfMixed 29 = .ok (.lload 9, 2) := by decide +kernel
theorem dX0_wholeOfMixed_31 : decode cX0_wholeOfMixed 31 = .ok (.lconst 0, 1) := by decide +kernel
theorem dX0_wholeOfMixed_32 : decode cX0_wholeOfMixed 32 = .ok (.lcmp, 1) := by decide +kernel
theorem dX0_wholeOfMixed_33 : decode cX0_wholeOfMixed 33 = .ok (.ifCond .ne 6, 3) := by decide +kernel
theorem dX0_wholeOfMixed_36 : decode cX0_wholeOfMixed 36 = .ok (.lload 5, 2) := by decide +kernel
theorem dX0_wholeOfMixed_38 : decode cX0_wholeOfMixed 38 = .ok (.lreturn, 1) := by decide +kernel
theorem dX0_wholeOfMixed_39 : decode cX0_wholeOfMixed 39 = .ok (.iload_n 3, 1) := by decide +kernel
theorem dX0_wholeOfMixed_40 : decode cX0_wholeOfMixed 40 = .ok (.iconst 2, 1) := by decide +kernel
theorem dX0_wholeOfMixed_41 : decode cX0_wholeOfMixed 41 = .ok (.if_icmp .ne 24, 3) := by decide +kernel
theorem dX0_wholeOfMixed_44 : decode cX0_wholeOfMixed 44 = .ok (.lload 9, 2) := by decide +kernel
theorem dX0_wholeOfMixed_46 : decode cX0_wholeOfMixed 46 = .ok (.lload 7, 2) := by decide +kernel
theorem dX0_wholeOfMixed_48 : decode cX0_wholeOfMixed 48 = .ok (.iconst 1, 1) := by decide +kernel
theorem dX0_wholeOfMixed_49 : decode cX0_wholeOfMixed 49 = .ok (.lshr, 1) := by decide +kernel
theorem dX0_wholeOfMixed_50 : decode cX0_wholeOfMixed 50 = .ok (.aload_n 0, 1) := by decide +kernel
theorem dX0_wholeOfMixed_51 : decode cX0_wholeOfMixed 51 = .ok (.lload 5, 2) := by decide +kernel
theorem dX0_wholeOfMixed_53 : decode cX0_wholeOfMixed 53 = .ok (.invokevirtual 59, 3) := by decide +kernel
theorem dX0_wholeOfMixed_56 : decode cX0_wholeOfMixed 56 = .ok (.iload 4, 2) := by decide +kernel
theorem dX0_wholeOfMixed_58 : decode cX0_wholeOfMixed 58 = .ok (.lshr, 1) := by decide +kernel
theorem dX0_wholeOfMixed_59 : decode cX0_wholeOfMixed 59 = .ok (.invokestatic 108, 3) := by decide +kernel
theorem dX0_wholeOfMixed_62 : decode cX0_wholeOfMixed 62 = .ok (.goto 8, 3) := by decide +kernel
theorem dX0_wholeOfMixed_65 : decode cX0_wholeOfMixed 65 = .ok (.iload_n 3, 1) := by decide +kernel
theorem dX0_wholeOfMixed_66 : decode cX0_wholeOfMixed 66 = .ok (.lload_n 1, 1) := by decide +kernel
theorem dX0_wholeOfMixed_67 : decode cX0_wholeOfMixed 67 = .ok (.invokestatic 112, 3) := by decide +kernel
theorem dX0_wholeOfMixed_70 : decode cX0_wholeOfMixed 70 = .ok (.istore 13, 2) := by decide +kernel
theorem dX0_wholeOfMixed_72 : decode cX0_wholeOfMixed 72 = .ok (.iload 13, 2) := by decide +kernel
theorem dX0_wholeOfMixed_74 : decode cX0_wholeOfMixed 74 = .ok (.ifCond .eq 11, 3) := by decide +kernel
theorem dX0_wholeOfMixed_77 : decode cX0_wholeOfMixed 77 = .ok (.lload 11, 2) := by decide +kernel
theorem dX0_wholeOfMixed_79 : decode cX0_wholeOfMixed 79 = .ok (.lload 7, 2) := by decide +kernel
theorem dX0_wholeOfMixed_81 : decode cX0_wholeOfMixed 81 = .ok (.ladd, 1) := by decide +kernel
theorem dX0_wholeOfMixed_82 : decode cX0_wholeOfMixed 82 = .ok (.goto 5, 3) := by decide +kernel
theorem dX0_wholeOfMixed_85 : decode cX0_wholeOfMixed 85 = .ok (.lload 11, 2) := by decide +kernel
theorem dX0_wholeOfMixed_87 : decode cX0_wholeOfMixed 87 = .ok (.lreturn, 1) := by decide +kernel
theorem dX0_growsBy_0 : decode cX0_growsBy 0 = .ok (.iload_n 0, 1) := by decide +kernel
theorem dX0_growsBy_1 : decode cX0_growsBy 1 = .ok (.iconst 1, 1) := by decide +kernel
theorem dX0_growsBy_2 : decode cX0_growsBy 2 = .ok (.if_icmp .ne 17, 3) := by decide +kernel
theorem dX0_growsBy_5 : decode cX0_growsBy 5 = .ok (.lload_n 1, 1) := by decide +kernel
theorem dX0_growsBy_6 : decode cX0_growsBy 6 = .ok (.lconst 0, 1) := by decide +kernel
theorem dX0_growsBy_7 : decode cX0_growsBy 7 = .ok (.lcmp, 1) := by decide +kernel
theorem dX0_growsBy_8 : decode cX0_growsBy 8 = .ok (.ifCond .lt 7, 3) := by decide +kernel
theorem dX0_growsBy_11 : decode cX0_growsBy 11 = .ok (.iconst 1, 1) := by decide +kernel
theorem dX0_growsBy_12 : decode cX0_growsBy 12 = .ok (.goto 18, 3) := by decide +kernel
theorem dX0_growsBy_15 : decode cX0_growsBy 15 = .ok (.iconst 0, 1) := by decide +kernel
theorem dX0_growsBy_16 : decode cX0_growsBy 16 = .ok (.goto 14, 3) := by decide +kernel
theorem dX0_growsBy_19 : decode cX0_growsBy 19 = .ok (.lload_n 1, 1) := by decide +kernel
theorem dX0_growsBy_20 : decode cX0_growsBy 20 = .ok (.lconst 0, 1) := by decide +kernel
theorem dX0_growsBy_21 : decode cX0_growsBy 21 = .ok (.lcmp, 1) := by decide +kernel
theorem dX0_growsBy_22 : decode cX0_growsBy 22 = .ok (.ifCond .ge 7, 3) := by decide +kernel
theorem dX0_growsBy_25 : decode cX0_growsBy 25 = .ok (.iconst 1, 1) := by decide +kernel
theorem dX0_growsBy_26 : decode cX0_growsBy 26 = .ok (.goto 4, 3) := by decide +kernel
theorem dX0_growsBy_29 : decode cX0_growsBy 29 = .ok (.iconst 0, 1) := by decide +kernel
theorem dX0_growsBy_30 : decode cX0_growsBy 30 = .ok (.ireturn, 1) := by decide +kernel
set_option maxRecDepth 20000 in
theorem ggX1_init_X1_startAgain : GoodIn wsX1_init wsX1_startAgain := goodIn_r _ [13, 14, 15, 16, 4, 17, 18, 19, 20, 12, 21, 5, 6, 22, 23, 24, 25, 26, 27, 28, 29, 30, 31, 32, 33, 34, 35, 36, 37, 38, 39, 40, 41, 42, 43, 44, 45, 46, 47, 48, 49, 50, 51, 52] (by decide +kernel) (by decide +kernel)
set_option maxRecDepth 20000 in
theorem gX1_init_X1_startAgain : GoodIn wsX1_init (wsV RX1 28 RX1 yX1_startAgain wsX1_startAgain) := goodIn_app (goodIn_of _ (by decide +kernel)) ggX1_init_X1_startAgain
theorem dX1_init_0 : decode cX1_init 0 = .ok (.aload_n 0, 1) := by decide +kernel
theorem dX1_init_1 : decode cX1_init 1 = .ok (.invokespecial 1, 3) := by decide +kernel
theorem dX1_init_4 : decode cX1_init 4 = .ok (.aload_n 0, 1) := by decide +kernel
theorem dX1_init_5 : decode cX1_init 5 = .ok (.aload_n 1, 1) := by decide +kernel
theorem dX1_init_6 : decode cX1_init 6 = .ok (.putfield 7, 3) := by decide +kernel
theorem dX1_init_9 : decode cX1_init 9 = .ok (.aload_n 0, 1) := by decide +kernel
theorem dX1_init_10 : decode cX1_init 10 = .ok (.lload_n 2, 1) := by decide +kernel
theorem dX1_init_11 : decode cX1_init 11 = .ok (.putfield 13, 3) := by decide +kernel
theorem dX1_init_14 : decode cX1_init 14 = .ok (.aload_n 0, 1) := by decide +kernel
theorem dX1_init_15 : decode cX1_init 15 = .ok (.lload 4, 2) := by decide +kernel
theorem dX1_init_17 : decode cX1_init 17 = .ok (.putfield 17, 3) := by decide +kernel
theorem dX1_init_20 : decode cX1_init 20 = .ok (.aload_n 0, 1) := by decide +kernel
theorem dX1_init_21 : decode cX1_init 21 = .ok (.aload_n 1, 1) := by decide +kernel
theorem dX1_init_22 : decode cX1_init 22 = .ok (.getfield 20, 3) := by decide +kernel
theorem dX1_init_25 : decode cX1_init 25 = .ok (.putfield 25, 3) := by decide +kernel
theorem dX1_init_28 : decode cX1_init 28 = .ok (.aload_n 0, 1) := by decide +kernel
theorem dX1_init_29 : decode cX1_init 29 = .ok (.invokevirtual 28, 3) := by decide +kernel
theorem dX1_init_32 : decode cX1_init 32 = .ok (.return_, 1) := by decide +kernel
set_option maxRecDepth 20000 in
theorem ggX1_startAgain_X1_withinLimits : GoodIn wsX1_startAgain wsX1_withinLimits := goodIn_r _ [10, 4, 11, 12, 13, 14, 15, 16, 17, 18, 19, 20, 21, 22, 23, 24, 25, 26, 27, 28, 29, 30, 31, 36, 37, 38, 39, 40, 41, 42, 43] (by decide +kernel) (by decide +kernel)
set_option maxRecDepth 20000 in
theorem gX1_startAgain_X1_withinLimits : GoodIn wsX1_startAgain (wsV RX1 31 RX1 yX1_withinLimits wsX1_withinLimits) := goodIn_app (goodIn_of _ (by decide +kernel)) ggX1_startAgain_X1_withinLimits
set_option maxRecDepth 20000 in
theorem ggX1_startAgain_X0_sizeOf : GoodIn wsX1_startAgain wsX0_sizeOf := goodIn_r _ [35, 26, 27] (by decide +kernel) (by decide +kernel)
set_option maxRecDepth 20000 in
theorem gX1_startAgain_X0_sizeOf : GoodIn wsX1_startAgain (wsV RX1 44 RX0 yX0_sizeOf wsX0_sizeOf) := goodIn_app (goodIn_of _ (by decide +kernel)) ggX1_startAgain_X0_sizeOf
theorem dX1_startAgain_0 : decode cX1_startAgain 0 = .ok (.aload_n 0, 1) := by decide +kernel
theorem dX1_startAgain_1 : decode cX1_startAgain 1 = .ok (.aload_n 0, 1) := by decide +kernel
theorem dX1_startAgain_2 : decode cX1_startAgain 2 = .ok (.lconst 0, 1) := by decide +kernel
theorem dX1_startAgain_3 : decode cX1_startAgain 3 = .ok (.invokevirtual 31, 3) := by decide +kernel
theorem dX1_startAgain_6 : decode cX1_startAgain 6 = .ok (.putfield 35, 3) := by decide +kernel
theorem dX1_startAgain_9 : decode cX1_startAgain 9 = .ok (.aload_n 0, 1) := by decide +kernel
theorem dX1_startAgain_10 : decode cX1_startAgain 10 = .ok (.aload_n 0, 1) := by decide +kernel
theorem dX1_startAgain_11 : decode cX1_startAgain 11 = .ok (.getfield 35, 3) := by decide +kernel
theorem dX1_startAgain_14 : decode cX1_startAgain 14 = .ok (.putfield 38, 3) := by decide +kernel
theorem dX1_startAgain_17 : decode cX1_startAgain 17 = .ok (.aload_n 0, 1) := by decide +kernel
theorem dX1_startAgain_18 : decode cX1_startAgain 18 = .ok (.aload_n 0, 1) := by decide +kernel
theorem dX1_startAgain_19 : decode cX1_startAgain 19 = .ok (.getfield 35, 3) := by decide +kernel
theorem dX1_startAgain_22 : decode cX1_startAgain 22 = .ok (.putfield 41, 3) := by decide +kernel
theorem dX1_startAgain_25 : decode cX1_startAgain 25 = .ok (.aload_n 0, 1) := by decide +kernel
theorem dX1_startAgain_26 : decode cX1_startAgain 26 = .ok (.aload_n 0, 1) := by decide +kernel
theorem dX1_startAgain_27 : decode cX1_startAgain 27 = .ok (.getfield 7, 3) := by decide +kernel
theorem dX1_startAgain_30 : decode cX1_startAgain 30 = .ok (.aload_n 0, 1) := by decide +kernel
theorem dX1_startAgain_31 : decode cX1_startAgain 31 = .ok (.getfield 35, 3) := by decide +kernel
theorem dX1_startAgain_34 : decode cX1_startAgain 34 = .ok (.invokevirtual 44, 3) := by decide +kernel
theorem dX1_startAgain_37 : decode cX1_startAgain 37 = .ok (.putfield 47, 3) := by decide +kernel
theorem dX1_startAgain_40 : decode cX1_startAgain 40 = .ok (.return_, 1) := by decide +kernel
set_option maxRecDepth 20000 in
theorem ggX1_moveTo_X1_withinLimits : GoodIn wsX1_moveTo wsX1_withinLimits := goodIn_r _ [14, 2, 15, 16, 17, 18, 19, 20, 21, 22, 23, 24, 25, 26, 27, 28, 29, 30, 31, 32, 33, 34, 35, 40, 41, 42, 43, 44, 45, 46, 47] (by decide +kernel) (by decide +kernel)
set_option maxRecDepth 20000 in
theorem gX1_moveTo_X1_withinLimits : GoodIn wsX1_moveTo (wsV RX1 31 RX1 yX1_withinLimits wsX1_withinLimits) := goodIn_app (goodIn_of _ (by decide +kernel)) ggX1_moveTo_X1_withinLimits
set_option maxRecDepth 20000 in
theorem ggX1_moveTo_X0_greaterOf : GoodIn wsX1_moveTo wsX0_greaterOf := goodIn_r _ [21, 22, 23, 24, 20, 25, 26, 27, 28, 29, 30, 31] (by decide +kernel) (by decide +kernel)
set_option maxRecDepth 20000 in
theorem gX1_moveTo_X0_greaterOf : GoodIn wsX1_moveTo (wsV RX1 50 RX0 yX0_greaterOf wsX0_greaterOf) := goodIn_app (goodIn_of _ (by decide +kernel)) ggX1_moveTo_X0_greaterOf
set_option maxRecDepth 20000 in
theorem ggX1_moveTo_X0_lesserOf : GoodIn wsX1_moveTo wsX0_lesserOf := goodIn_r _ [35, 22, 23, 24, 20, 25, 26, 27, 28, 29, 30, 31] (by decide +kernel) (by decide +kernel)
set_option maxRecDepth 20000 in
theorem gX1_moveTo_X0_lesserOf : GoodIn wsX1_moveTo (wsV RX1 54 RX0 yX0_lesserOf wsX0_lesserOf) := goodIn_app (goodIn_of _ (by decide +kernel)) ggX1_moveTo_X0_lesserOf
set_option maxRecDepth 20000 in
theorem ggX1_moveTo_X0_sizeOf : GoodIn wsX1_moveTo wsX0_sizeOf := goodIn_r _ [39, 30, 31] (by decide +kernel) (by decide +kernel)
set_option maxRecDepth 20000 in
theorem gX1_moveTo_X0_sizeOf : GoodIn wsX1_moveTo (wsV RX1 44 RX0 yX0_sizeOf wsX0_sizeOf) := goodIn_app (goodIn_of _ (by decide +kernel)) ggX1_moveTo_X0_sizeOf
theorem dX1_moveTo_0 : decode cX1_moveTo 0 = .ok (.aload_n 0, 1) := by decide +kernel
theorem dX1_moveTo_1 : decode cX1_moveTo 1 = .ok (.aload_n 0, 1) := by decide +kernel
theorem dX1_moveTo_2 : decode cX1_moveTo 2 = .ok (.lload_n 1, 1) := by decide +kernel
theorem dX1_moveTo_3 : decode cX1_moveTo 3 = .ok (.invokevirtual 31, 3) := by decide +kernel
theorem dX1_moveTo_6 : decode cX1_moveTo 6 = .ok (.putfield 35, 3) := by decide +kernel
theorem dX1_moveTo_9 : decode cX1_moveTo 9 = .ok (.aload_n 0, 1) := by decide +kernel
theorem dX1_moveTo_10 : decode cX1_moveTo 10 = .ok (.aload_n 0, 1) := by decide +kernel
theorem dX1_moveTo_11 : decode cX1_moveTo 11 = .ok (.getfield 7, 3) := by decide +kernel
theorem dX1_moveTo_14 : decode cX1_moveTo 14 = .ok (.aload_n 0, 1) := by decide +kernel
theorem dX1_moveTo_15 : decode cX1_moveTo 15 = .ok (.getfield 38, 3) := by decide +kernel
theorem dX1_moveTo_18 : decode cX1_moveTo 18 = .ok (.aload_n 0, 1) := by decide +kernel
theorem dX1_moveTo_19 : decode cX1_moveTo 19 = .ok (.getfield 35, 3) := by decide +kernel
theorem dX1_moveTo_22 : decode cX1_moveTo 22 = .ok (.invokevirtual 50, 3) := by decide +kernel
theorem dX1_moveTo_25 : decode cX1_moveTo 25 = .ok (.putfield 38, 3) := by decide +kernel
theorem dX1_moveTo_28 : decode cX1_moveTo 28 = .ok (.aload_n 0, 1) := by decide +kernel
theorem dX1_moveTo_29 : decode cX1_moveTo 29 = .ok (.aload_n 0, 1) := by decide +kernel
theorem dX1_moveTo_30 : decode cX1_moveTo 30 = .ok (.getfield 7, 3) := by decide +kernel
theorem dX1_moveTo_33 : decode cX1_moveTo 33 = .ok (.aload_n 0, 1) := by decide +kernel
theorem dX1_moveTo_34 : decode cX1_moveTo 34 = .ok (.getfield 41, 3) := by decide +kernel
theorem dX1_moveTo_37 : decode cX1_moveTo 37 = .ok (.aload_n 0, 1) := by decide +kernel
theorem dX1_moveTo_38 : decode cX1_moveTo 38 = .ok (.getfield 35, 3) := by decide +kernel
theorem dX1_moveTo_41 : decode cX1_moveTo 41 = .ok (.invokevirtual 54, 3) := by decide +kernel
theorem dX1_moveTo_44 : decode cX1_moveTo 44 = .ok (.putfield 41, 3) := by decide +kernel
theorem dX1_moveTo_47 : decode cX1_moveTo 47 = .ok (.aload_n 0, 1) := by decide +kernel
theorem dX1_moveTo_48 : decode cX1_moveTo 48 = .ok (.aload_n 0, 1) := by decide +kernel
theorem dX1_moveTo_49 : decode cX1_moveTo 49 = .ok (.getfield 47, 3) := by decide +kernel
theorem dX1_moveTo_52 : decode cX1_moveTo 52 = .ok (.aload_n 0, 1) := by decide +kernel
theorem dX1_moveTo_53 : decode cX1_moveTo 53 = .ok (.getfield 7, 3) := by decide +kernel
theorem dX1_moveTo_56 : decode cX1_moveTo 56 = .ok (.aload_n 0, 1) := by decide +kernel
theorem dX1_moveTo_57 : decode cX1_moveTo 57 = .ok (.getfield 35, 3) := by decide +kernel
theorem dX1_moveTo_60 : decode cX1_moveTo 60 = .ok (.invokevirtual 44, 3) := by decide +kernel
theorem dX1_moveTo_63 : decode cX1_moveTo 63 = .ok (.invokestatic 57, 3) := by decide +kernel
theorem dX1_moveTo_66 : decode cX1_moveTo 66 = .ok (.putfield 47, 3) := by decide +kernel
theorem dX1_moveTo_69 : decode cX1_moveTo 69 = .ok (.return_, 1) := by decide +kernel
set_option maxRecDepth 20000 in
theorem ggX1_stepTowards_X0_areAlike : GoodIn wsX1_stepTowards wsX0_areAlike := goodIn_r _ [8, 9, 10, 11, 7, 12, 13, 14] (by decide +kernel) (by decide +kernel)
set_option maxRecDepth 20000 in
theorem gX1_stepTowards_X0_areAlike : GoodIn wsX1_stepTowards (wsV RX1 62 RX0 yX0_areAlike wsX0_areAlike) := goodIn_app (goodIn_of _ (by decide +kernel)) ggX1_stepTowards_X0_areAlike
set_option maxRecDepth 20000 in
theorem ggX1_stepTowards_X0_negated : GoodIn wsX1_stepTowards wsX0_negated := goodIn_r _ [18, 13, 9, 10, 11, 7, 12, 14] (by decide +kernel) (by decide +kernel)
set_option maxRecDepth 20000 in
theorem gX1_stepTowards_X0_negated : GoodIn wsX1_stepTowards (wsV RX1 66 RX0 yX0_negated wsX0_negated) := goodIn_app (goodIn_of _ (by decide +kernel)) ggX1_stepTowards_X0_negated
set_option maxRecDepth 20000 in
theorem ggX1_stepTowards_X0_sum : GoodIn wsX1_stepTowards wsX0_sum := goodIn_r _ [22, 9, 10, 11, 7, 12, 13, 14, 23, 24, 25, 26, 27, 28, 29, 30, 31, 32, 33, 34, 35, 36, 37, 38, 39, 40, 41, 42, 43, 44, 45, 46, 47, 48, 49, 50, 51, 52, 53, 54, 55, 56, 57, 58, 59, 60, 61] (by decide +kernel) (by decide +kernel)
set_option maxRecDepth 20000 in
theorem gX1_stepTowards_X0_sum : GoodIn wsX1_stepTowards (wsV RX1 69 RX0 yX0_sum wsX0_sum) := goodIn_app (goodIn_of _ (by decide +kernel)) ggX1_stepTowards_X0_sum
set_option maxRecDepth 20000 in
theorem ggX1_stepTowards_X0_sizeOf : GoodIn wsX1_stepTowards wsX0_sizeOf := goodIn_r _ [12, 13, 14] (by decide +kernel) (by decide +kernel)
set_option maxRecDepth 20000 in
theorem gX1_stepTowards_X0_sizeOf : GoodIn wsX1_stepTowards (wsV RX1 44 RX0 yX0_sizeOf wsX0_sizeOf) := goodIn_app (goodIn_of _ (by decide +kernel)) ggX1_stepTowards_X0_sizeOf
set_option maxRecDepth 20000 in
theorem ggX1_stepTowards_X0_withSideOf : GoodIn wsX1_stepTowards wsX0_withSideOf := goodIn_r _ [61, 13, 9, 10, 11, 7, 12, 14] (by decide +kernel) (by decide +kernel)
set_option maxRecDepth 20000 in
theorem gX1_stepTowards_X0_withSideOf : GoodIn wsX1_stepTowards (wsV RX1 72 RX0 yX0_withSideOf wsX0_withSideOf) := goodIn_app (goodIn_of _ (by decide +kernel)) ggX1_stepTowards_X0_withSideOf
theorem dX1_stepTowards_0 : decode cX1_stepTowards 0 = .ok (.aload_n 0, 1) := by decide +kernel
theorem dX1_stepTowards_1 : decode cX1_stepTowards 1 = .ok (.getfield 7, 3) := by decide +kernel
theorem dX1_stepTowards_4 : decode cX1_stepTowards 4 = .ok (.aload_n 0, 1) := by decide +kernel
theorem dX1_stepTowards_5 : decode cX1_stepTowards 5 = .ok (.getfield 35, 3) := by decide +kernel
theorem dX1_stepTowards_8 : decode cX1_stepTowards 8 = .ok (.lload_n 1, 1) := by decide +kernel
theorem dX1_stepTowards_9 : decode cX1_stepTowards 9 = .ok (.invokevirtual 62, 3) := by decide +kernel
theorem dX1_stepTowards_12 : decode cX1_stepTowards 12 = .ok (.ifCond .eq 5, 3) := by decide +kernel
theorem dX1_stepTowards_15 : decode cX1_stepTowards 15 = .ok (.lload_n 1, 1) := by decide +kernel
theorem dX1_stepTowards_16 : decode cX1_stepTowards 16 = .ok (.lreturn, 1) := by decide +kernel
theorem dX1_stepTowards_17 : decode cX1_stepTowards 17 = .ok (.aload_n 0, 1) := by decide +kernel
theorem dX1_stepTowards_18 : decode cX1_stepTowards 18 = .ok (.getfield 7, 3) := by decide +kernel
theorem dX1_stepTowards_21 : decode cX1_stepTowards 21 = .ok (.lload_n 1, 1) := by decide +kernel
theorem dX1_stepTowards_22 : decode cX1_stepTowards 22 = .ok (.aload_n 0, 1) := by decide +kernel
theorem dX1_stepTowards_23 : decode cX1_stepTowards 23 = .ok (.getfield 7, 3) := by decide +kernel
theorem dX1_stepTowards_26 : decode cX1_stepTowards 26 = .ok (.aload_n 0, 1) := by decide +kernel
theorem dX1_stepTowards_27 : decode cX1_stepTowards 27 = .ok (.getfield 35, 3) := by decide +kernel
theorem dX1_stepTowards_30 : decode cX1_stepTowards 30 = .ok (.invokevirtual 66, 3) := by decide +kernel
theorem dX1_stepTowards_33 : decode cX1_stepTowards 33 = .ok (.invokevirtual 69, 3) := by decide +kernel
theorem dX1_stepTowards_36 : decode cX1_stepTowards 36 = .ok (.lstore_n 3, 1) := by decide +kernel
theorem dX1_stepTowards_37 : decode cX1_stepTowards 37 = .ok (.aload_n 0, 1) := by decide +kernel
theorem dX1_stepTowards_38 : decode cX1_stepTowards 38 = .ok (.getfield 7, 3) := by decide +kernel
theorem dX1_stepTowards_41 : decode cX1_stepTowards 41 = .ok (.lload_n 3, 1) := by decide +kernel
theorem dX1_stepTowards_42 : decode cX1_stepTowards 42 = .ok (.invokevirtual 44, 3) := by decide +kernel
theorem dX1_stepTowards_45 : decode cX1_stepTowards 45 = .ok (.aload_n 0, 1) := by decide +kernel
theorem dX1_stepTowards_46 : decode cX1_stepTowards 46 = .ok (.getfield 25, 3) := by decide +kernel
end
section
theorem dX1_stepTowards_49 : decode cX1_stepTowards 49 = .ok (.lcmp, 1) := by decide +kernel
theorem dX1_stepTowards_50 : decode cX1_stepTowards 50 = .ok (.ifCond .gt 5, 3) := by decide +kernel
theorem dX1_stepTowards_53 : decode cX1_stepTowards 53 = .ok (.lload_n 1, 1) := by decide +kernel
theorem dX1_stepTowards_54 : decode cX1_stepTowards 54 = .ok (.lreturn, 1) := by decide +kernel
theorem dX1_stepTowards_55 : decode cX1_stepTowards 55 = .ok (.aload_n 0, 1) := by decide +kernel
theorem dX1_stepTowards_56 : decode cX1_stepTowards 56 = .ok (.getfield 7, 3) := by decide +kernel
theorem dX1_stepTowards_59 : decode cX1_stepTowards 59 = .ok (.aload_n 0, 1) := by decide +kernel
theorem dX1_stepTowards_60 : decode cX1_stepTowards 60 = .ok (.getfield 35, 3) := by decide +kernel
theorem dX1_stepTowards_63 : decode cX1_stepTowards 63 = .ok (.aload_n 0, 1) := by decide +kernel
theorem dX1_stepTowards_64 : decode cX1_stepTowards 64 = .ok (.getfield 7, 3) := by decide +kernel
theorem dX1_stepTowards_67 : decode cX1_stepTowards 67 = .ok (.aload_n 0, 1) := by decide +kernel
theorem dX1_stepTowards_68 : decode cX1_stepTowards 68 = .ok (.getfield 25, 3) := by decide +kernel
theorem dX1_stepTowards_71 : decode cX1_stepTowards 71 = .ok (.lload_n 3, 1) := by decide +kernel
theorem dX1_stepTowards_72 : decode cX1_stepTowards 72 = .ok (.invokevirtual 72, 3) := by decide +kernel
theorem dX1_stepTowards_75 : decode cX1_stepTowards 75 = .ok (.invokevirtual 69, 3) := by decide +kernel
theorem dX1_stepTowards_78 : decode cX1_stepTowards 78 = .ok (.lreturn, 1) := by decide +kernel
set_option maxRecDepth 20000 in
theorem ggX1_fineValue_X0_fineFromCoarse : GoodIn wsX1_fineValue wsX0_fineFromCoarse := goodIn_r _ [7, 8, 9, 10, 11, 12, 13, 14, 15, 6, 16, 17, 18, 19, 20, 21, 22, 23, 24, 25, 26, 27, 28, 29, 30, 31, 32, 33, 34, 35, 36, 37, 38, 39, 40, 41, 42, 43, 44, 45, 46, 47, 48, 49, 50] (by decide +kernel) (by decide +kernel)
set_option maxRecDepth 20000 in
theorem gX1_fineValue_X0_fineFromCoarse : GoodIn wsX1_fineValue (va_wsS RX1 78 yX0_fineFromCoarse wsX0_fineFromCoarse) := goodIn_app (goodIn_of _ (by decide +kernel)) ggX1_fineValue_X0_fineFromCoarse
theorem dX1_fineValue_0 : decode cX1_fineValue 0 = .ok (.aload_n 0, 1) := by decide +kernel
theorem dX1_fineValue_1 : decode cX1_fineValue 1 = .ok (.getfield 7, 3) := by decide +kernel
theorem dX1_fineValue_4 : decode cX1_fineValue 4 = .ok (.getstatic 75, 3) := by decide +kernel
theorem dX1_fineValue_7 : decode cX1_fineValue 7 = .ok (.if_acmp .ne 10, 3) := by decide +kernel
theorem dX1_fineValue_10 : decode cX1_fineValue 10 = .ok (.aload_n 0, 1) := by decide +kernel
theorem dX1_fineValue_11 : decode cX1_fineValue 11 = .ok (.getfield 35, 3) := by decide +kernel
theorem dX1_fineValue_14 : decode cX1_fineValue 14 = .ok (.goto 10, 3) := by decide +kernel
theorem dX1_fineValue_17 : decode cX1_fineValue 17 = .ok (.aload_n 0, 1) := by decide +kernel
theorem dX1_fineValue_18 : decode cX1_fineValue 18 = .ok (.getfield 35, 3) := by decide +kernel
theorem dX1_fineValue_21 : decode cX1_fineValue 21 = .ok (.invokestatic 78, 3) := by decide +kernel
theorem dX1_fineValue_24 : decode cX1_fineValue 24 = .ok (.lreturn, 1) := by decide +kernel
set_option maxRecDepth 20000 in
theorem ggX1_isCounted_X0_sizeOf : GoodIn wsX1_isCounted wsX0_sizeOf := goodIn_r _ [10, 11, 12] (by decide +kernel) (by decide +kernel)
set_option maxRecDepth 20000 in
theorem gX1_isCounted_X0_sizeOf : GoodIn wsX1_isCounted (wsV RX1 44 RX0 yX0_sizeOf wsX0_sizeOf) := goodIn_app (goodIn_of _ (by decide +kernel)) ggX1_isCounted_X0_sizeOf
theorem dX1_isCounted_0 : decode cX1_isCounted 0 = .ok (.iload_n 1, 1) := by decide +kernel
theorem dX1_isCounted_1 : decode cX1_isCounted 1 = .ok (.lookupswitch 65 #[(1, 27), (2, 43)], 27) := by decide +kernel
theorem dX1_isCounted_28 : decode cX1_isCounted 28 = .ok (.aload_n 0, 1) := by decide +kernel
theorem dX1_isCounted_29 : decode cX1_isCounted 29 = .ok (.getfield 7, 3) := by decide +kernel
theorem dX1_isCounted_32 : decode cX1_isCounted 32 = .ok (.getstatic 75, 3) := by decide +kernel
theorem dX1_isCounted_35 : decode cX1_isCounted 35 = .ok (.if_acmp .ne 7, 3) := by decide +kernel
theorem dX1_isCounted_38 : decode cX1_isCounted 38 = .ok (.iconst 1, 1) := by decide +kernel
theorem dX1_isCounted_39 : decode cX1_isCounted 39 = .ok (.goto 4, 3) := by decide +kernel
theorem dX1_isCounted_42 : decode cX1_isCounted 42 = .ok (.iconst 0, 1) := by decide +kernel
theorem dX1_isCounted_43 : decode cX1_isCounted 43 = .ok (.ireturn, 1) := by decide +kernel
theorem dX1_isCounted_44 : decode cX1_isCounted 44 = .ok (.aload_n 0, 1) := by decide +kernel
theorem dX1_isCounted_45 : decode cX1_isCounted 45 = .ok (.getfield 7, 3) := by decide +kernel
theorem dX1_isCounted_48 : decode cX1_isCounted 48 = .ok (.aload_n 0, 1) := by decide +kernel
theorem dX1_isCounted_49 : decode cX1_isCounted 49 = .ok (.getfield 35, 3) := by decide +kernel
theorem dX1_isCounted_52 : decode cX1_isCounted 52 = .ok (.invokevirtual 44, 3) := by decide +kernel
theorem dX1_isCounted_55 : decode cX1_isCounted 55 = .ok (.lconst 0, 1) := by decide +kernel
theorem dX1_isCounted_56 : decode cX1_isCounted 56 = .ok (.lcmp, 1) := by decide +kernel
theorem dX1_isCounted_57 : decode cX1_isCounted 57 = .ok (.ifCond .ne 7, 3) := by decide +kernel
theorem dX1_isCounted_60 : decode cX1_isCounted 60 = .ok (.iconst 1, 1) := by decide +kernel
theorem dX1_isCounted_61 : decode cX1_isCounted 61 = .ok (.goto 4, 3) := by decide +kernel
theorem dX1_isCounted_64 : decode cX1_isCounted 64 = .ok (.iconst 0, 1) := by decide +kernel
theorem dX1_isCounted_65 : decode cX1_isCounted 65 = .ok (.ireturn, 1) := by decide +kernel
theorem dX1_isCounted_66 : decode cX1_isCounted 66 = .ok (.aload_n 0, 1) := by decide +kernel
theorem dX1_isCounted_67 : decode cX1_isCounted 67 = .ok (.getfield 35, 3) := by decide +kernel
theorem dX1_isCounted_70 : decode cX1_isCounted 70 = .ok (.aload_n 0, 1) := by decide +kernel
theorem dX1_isCounted_71 : decode cX1_isCounted 71 = .ok (.getfield 13, 3) := by decide +kernel
theorem dX1_isCounted_74 : decode cX1_isCounted 74 = .ok (.lcmp, 1) := by decide +kernel
theorem dX1_isCounted_75 : decode cX1_isCounted 75 = .ok (.ifCond .eq 15, 3) := by decide +kernel
theorem dX1_isCounted_78 : decode cX1_isCounted 78 = .ok (.aload_n 0, 1) := by decide +kernel
theorem dX1_isCounted_79 : decode cX1_isCounted 79 = .ok (.getfield 35, 3) := by decide +kernel
theorem dX1_isCounted_82 : decode cX1_isCounted 82 = .ok (.aload_n 0, 1) := by decide +kernel
theorem dX1_isCounted_83 : decode cX1_isCounted 83 = .ok (.getfield 17, 3) := by decide +kernel
theorem dX1_isCounted_86 : decode cX1_isCounted 86 = .ok (.lcmp, 1) := by decide +kernel
theorem dX1_isCounted_87 : decode cX1_isCounted 87 = .ok (.ifCond .ne 7, 3) := by decide +kernel
theorem dX1_isCounted_90 : decode cX1_isCounted 90 = .ok (.iconst 1, 1) := by decide +kernel
theorem dX1_isCounted_91 : decode cX1_isCounted 91 = .ok (.goto 4, 3) := by decide +kernel
theorem dX1_isCounted_94 : decode cX1_isCounted 94 = .ok (.iconst 0, 1) := by decide +kernel
theorem dX1_isCounted_95 : decode cX1_isCounted 95 = .ok (.ireturn, 1) := by decide +kernel
set_option maxRecDepth 20000 in
theorem ggX1_withinLimits_X0_greaterOf : GoodIn wsX1_withinLimits wsX0_greaterOf := goodIn_r _ [8, 9, 10, 11, 7, 12, 13, 14, 15, 16, 17, 18] (by decide +kernel) (by decide +kernel)
set_option maxRecDepth 20000 in
theorem gX1_withinLimits_X0_greaterOf : GoodIn wsX1_withinLimits (wsV RX1 50 RX0 yX0_greaterOf wsX0_greaterOf) := goodIn_app (goodIn_of _ (by decide +kernel)) ggX1_withinLimits_X0_greaterOf
set_option maxRecDepth 20000 in
theorem ggX1_withinLimits_X0_lesserOf : GoodIn wsX1_withinLimits wsX0_lesserOf := goodIn_r _ [22, 9, 10, 11, 7, 12, 13, 14, 15, 16, 17, 18] (by decide +kernel) (by decide +kernel)
set_option maxRecDepth 20000 in
theorem gX1_withinLimits_X0_lesserOf : GoodIn wsX1_withinLimits (wsV RX1 54 RX0 yX0_lesserOf wsX0_lesserOf) := goodIn_app (goodIn_of _ (by decide +kernel)) ggX1_withinLimits_X0_lesserOf
theorem dX1_withinLimits_0 : decode cX1_withinLimits 0 = .ok (.aload_n 0, 1) := by decide +kernel
theorem dX1_withinLimits_1 : decode cX1_withinLimits 1 = .ok (.getfield 7, 3) := by decide +kernel
theorem dX1_withinLimits_4 : decode cX1_withinLimits 4 = .ok (.aload_n 0, 1) := by decide +kernel
theorem dX1_withinLimits_5 : decode cX1_withinLimits 5 = .ok (.getfield 7, 3) := by decide +kernel
theorem dX1_withinLimits_8 : decode cX1_withinLimits 8 = .ok (.lload_n 1, 1) := by decide +kernel
theorem dX1_withinLimits_9 : decode cX1_withinLimits 9 = .ok (.aload_n 0, 1) := by decide +kernel
theorem dX1_withinLimits_10 : decode cX1_withinLimits 10 = .ok (.getfield 13, 3) := by decide +kernel
theorem dX1_withinLimits_13 : decode cX1_withinLimits 13 = .ok (.invokevirtual 50, 3) := by decide +kernel
theorem dX1_withinLimits_16 : decode cX1_withinLimits 16 = .ok (.aload_n 0, 1) := by decide +kernel
theorem dX1_withinLimits_17 : decode cX1_withinLimits 17 = .ok (.getfield 17, 3) := by decide +kernel
theorem dX1_withinLimits_20 : decode cX1_withinLimits 20 = .ok (.invokevirtual 54, 3) := by decide +kernel
theorem dX1_withinLimits_23 : decode cX1_withinLimits 23 = .ok (.lreturn, 1) := by decide +kernel
theorem dX2_init_0 : decode cX2_init 0 = .ok (.aload_n 0, 1) := by decide +kernel
theorem dX2_init_1 : decode cX2_init 1 = .ok (.invokespecial 1, 3) := by decide +kernel
theorem dX2_init_4 : decode cX2_init 4 = .ok (.aload_n 0, 1) := by decide +kernel
theorem dX2_init_5 : decode cX2_init 5 = .ok (.bipush 8, 2) := by decide +kernel
theorem dX2_init_7 : decode cX2_init 7 = .ok (.anewarray 9, 3) := by decide +kernel
theorem dX2_init_10 : decode cX2_init 10 = .ok (.putfield 11, 3) := by decide +kernel
theorem dX2_init_13 : decode cX2_init 13 = .ok (.return_, 1) := by decide +kernel
set_option maxRecDepth 20000 in
theorem ggX2_needle_X2_numberFrom : GoodIn wsX2_needle wsX2_numberFrom := goodIn_ca (goodIn_r _ [15, 1, 2, 16, 17, 18, 19, 20, 21, 22, 23, 24, 25, 26, 27, 28, 29, 30, 31, 32] (by decide +kernel) (by decide +kernel)) (goodIn_sub (fun _ h => List.mem_cons_of_mem _ (List.mem_append_left _ (List.mem_append_right _ h))) (by decide +kernel))
set_option maxRecDepth 20000 in
theorem gX2_needle_X2_numberFrom : GoodIn wsX2_needle (va_wsS RX2 24 yX2_numberFrom wsX2_numberFrom) := goodIn_app (goodIn_of _ (by decide +kernel)) ggX2_needle_X2_numberFrom
set_option maxRecDepth 20000 in
theorem ggX2_needle_X0_isBelow : GoodIn wsX2_needle wsX0_isBelow := goodIn_r _ [36, 37, 38, 39, 19, 40, 31, 32] (by decide +kernel) (by decide +kernel)
set_option maxRecDepth 20000 in
theorem gX2_needle_X0_isBelow : GoodIn wsX2_needle (wsV RX2 28 RX0 yX0_isBelow wsX0_isBelow) := goodIn_app (goodIn_of _ (by decide +kernel)) ggX2_needle_X0_isBelow
set_option maxRecDepth 20000 in
theorem ggX2_needle_X1_init : GoodIn wsX2_needle wsX1_init := goodIn_r _ [43, 44, 45, 46, 47, 48, 49, 50, 51, 52, 53, 54, 11, 55, 56, 57, 58, 59, 60, 61, 62, 63, 64, 65, 66, 19, 67, 68, 34, 35, 36, 37, 38, 39, 40, 31, 32, 69, 70, 71, 72, 73, 28, 29, 30, 79, 80, 81, 82, 83, 84, 85, 86] (by decide +kernel) (by decide +kernel)
set_option maxRecDepth 20000 in
theorem gX2_needle_X1_init : GoodIn wsX2_needle (wsX1_init) := ggX2_needle_X1_init
theorem dX2_needle_0 : decode cX2_needle 0 = .ok (.iload_n 1, 1) := by decide +kernel
theorem dX2_needle_1 : decode cX2_needle 1 = .ok (.ifCond .eq 9, 3) := by decide +kernel
theorem dX2_needle_4 : decode cX2_needle 4 = .ok (.getstatic 15, 3) := by decide +kernel
theorem dX2_needle_7 : decode cX2_needle 7 = .ok (.goto 6, 3) := by decide +kernel
theorem dX2_needle_10 : decode cX2_needle 10 = .ok (.getstatic 21, 3) := by decide +kernel
theorem dX2_needle_13 : decode cX2_needle 13 = .ok (.astore 6, 2) := by decide +kernel
theorem dX2_needle_15 : decode cX2_needle 15 = .ok (.aload 6, 2) := by decide +kernel
theorem dX2_needle_17 : decode cX2_needle 17 = .ok (.lload_n 2, 1) := by decide +kernel
theorem dX2_needle_18 : decode cX2_needle 18 = .ok (.invokestatic 24, 3) := by decide +kernel
theorem dX2_needle_21 : decode cX2_needle 21 = .ok (.lstore 7, 2) := by decide +kernel
theorem dX2_needle_23 : decode cX2_needle 23 = .ok (.aload 6, 2) := by decide +kernel
theorem dX2_needle_25 : decode cX2_needle 25 = .ok (.lload 4, 2) := by decide +kernel
theorem dX2_needle_27 : decode cX2_needle 27 = .ok (.invokestatic 24, 3) := by decide +kernel
theorem dX2_needle_30 : decode cX2_needle 30 = .ok (.lstore 9, 2) := by decide +kernel
theorem dX2_needle_32 : decode cX2_needle 32 = .ok (.aload 6, 2) := by decide +kernel
theorem dX2_needle_34 : decode cX2_needle 34 = .ok (.lload 9, 2) := by decide +kernel
theorem dX2_needle_36 : decode cX2_needle 36 = .ok (.lload 7, 2) := by decide +kernel
theorem dX2_needle_38 : decode cX2_needle 38 = .ok (.invokevirtual 28, 3) := by decide +kernel
theorem dX2_needle_41 : decode cX2_needle 41 = .ok (.ifCond .eq 13, 3) := by decide +kernel
theorem dX2_needle_44 : decode cX2_needle 44 = .ok (.new 32, 3) := by decide +kernel
theorem dX2_needle_47 : decode cX2_needle 47 = .ok (.dup, 1) := by decide +kernel
theorem dX2_needle_48 : decode cX2_needle 48 = .ok (.ldc 34, 2) := by decide +kernel
theorem dX2_needle_50 : decode cX2_needle 50 = .ok (.invokespecial 36, 3) := by decide +kernel
theorem dX2_needle_53 : decode cX2_needle 53 = .ok (.athrow, 1) := by decide +kernel
theorem dX2_needle_54 : decode cX2_needle 54 = .ok (.aload_n 0, 1) := by decide +kernel
theorem dX2_needle_55 : decode cX2_needle 55 = .ok (.getfield 39, 3) := by decide +kernel
theorem dX2_needle_58 : decode cX2_needle 58 = .ok (.aload_n 0, 1) := by decide +kernel
theorem dX2_needle_59 : decode cX2_needle 59 = .ok (.getfield 11, 3) := by decide +kernel
theorem dX2_needle_62 : decode cX2_needle 62 = .ok (.arraylength, 1) := by decide +kernel
theorem dX2_needle_63 : decode cX2_needle 63 = .ok (.if_icmp .lt 13, 3) := by decide +kernel
theorem dX2_needle_66 : decode cX2_needle 66 = .ok (.new 43, 3) := by decide +kernel
theorem dX2_needle_69 : decode cX2_needle 69 = .ok (.dup, 1) := by decide +kernel
theorem dX2_needle_70 : decode cX2_needle 70 = .ok (.ldc 45, 2) := by decide +kernel
theorem dX2_needle_72 : decode cX2_needle 72 = .ok (.invokespecial 47, 3) := by decide +kernel
theorem dX2_needle_75 : decode cX2_needle 75 = .ok (.athrow, 1) := by decide +kernel
theorem dX2_needle_76 : decode cX2_needle 76 = .ok (.aload_n 0, 1) := by decide +kernel
theorem dX2_needle_77 : decode cX2_needle 77 = .ok (.getfield 11, 3) := by decide +kernel
theorem dX2_needle_80 : decode cX2_needle 80 = .ok (.aload_n 0, 1) := by decide +kernel
theorem dX2_needle_81 : decode cX2_needle 81 = .ok (.getfield 39, 3) := by decide +kernel
theorem dX2_needle_84 : decode cX2_needle 84 = .ok (.new 9, 3) := by decide +kernel
theorem dX2_needle_87 : decode cX2_needle 87 = .ok (.dup, 1) := by decide +kernel
theorem dX2_needle_88 : decode cX2_needle 88 = .ok (.aload 6, 2) := by decide +kernel
theorem dX2_needle_90 : decode cX2_needle 90 = .ok (.lload 7, 2) := by decide +kernel
theorem dX2_needle_92 : decode cX2_needle 92 = .ok (.lload 9, 2) := by decide +kernel
theorem dX2_needle_94 : decode cX2_needle 94 = .ok (.invokespecial 48, 3) := by decide +kernel
theorem dX2_needle_97 : decode cX2_needle 97 = .ok (.aastore, 1) := by decide +kernel
theorem dX2_needle_98 : decode cX2_needle 98 = .ok (.aload_n 0, 1) := by decide +kernel
theorem dX2_needle_99 : decode cX2_needle 99 = .ok (.dup, 1) := by decide +kernel
theorem dX2_needle_100 : decode cX2_needle 100 = .ok (.getfield 39, 3) := by decide +kernel
theorem dX2_needle_103 : decode cX2_needle 103 = .ok (.iconst 1, 1) := by decide +kernel
theorem dX2_needle_104 : decode cX2_needle 104 = .ok (.iadd, 1) := by decide +kernel
theorem dX2_needle_105 : decode cX2_needle 105 = .ok (.putfield 39, 3) := by decide +kernel
theorem dX2_needle_108 : decode cX2_needle 108 = .ok (.aload_n 0, 1) := by decide +kernel
theorem dX2_needle_109 : decode cX2_needle 109 = .ok (.getfield 39, 3) := by decide +kernel
theorem dX2_needle_112 : decode cX2_needle 112 = .ok (.iconst 1, 1) := by decide +kernel
theorem dX2_needle_113 : decode cX2_needle 113 = .ok (.isub, 1) := by decide +kernel
theorem dX2_needle_114 : decode cX2_needle 114 = .ok (.ireturn, 1) := by decide +kernel
set_option maxRecDepth 20000 in
theorem ggX2_put_X2_needleAt : GoodIn wsX2_put wsX2_needleAt := goodIn_ca (goodIn_r _ [8, 9, 10, 11, 79, 80, 81, 82, 83] (by decide +kernel) (by decide +kernel)) (goodIn_sub (fun _ h => List.mem_cons_of_mem _ (List.mem_append_left _ (List.mem_append_right _ h))) (by decide +kernel))
set_option maxRecDepth 20000 in
theorem gX2_put_X2_needleAt : GoodIn wsX2_put (wsV RX2 51 RX2 yX2_needleAt wsX2_needleAt) := goodIn_app (goodIn_of _ (by decide +kernel)) ggX2_put_X2_needleAt
set_option maxRecDepth 20000 in
theorem ggX2_put_X2_numberFrom : GoodIn wsX2_put wsX2_numberFrom := goodIn_ca (goodIn_r _ [14, 15, 16, 17, 18, 19, 20, 21, 22, 23, 24, 25, 26, 27, 28, 29, 30, 31, 32, 33] (by decide +kernel) (by decide +kernel)) (goodIn_sub (fun _ h => List.mem_cons_of_mem _ (List.mem_append_right _ h)) (by decide +kernel))
set_option maxRecDepth 20000 in
theorem gX2_put_X2_numberFrom : GoodIn wsX2_put (va_wsS RX2 24 yX2_numberFrom wsX2_numberFrom) := goodIn_app (goodIn_of _ (by decide +kernel)) ggX2_put_X2_numberFrom
set_option maxRecDepth 20000 in
theorem ggX2_put_X1_moveTo : GoodIn wsX2_put wsX1_moveTo := goodIn_r _ [38, 39, 40, 41, 42, 43, 44, 45, 46, 47, 48, 49, 50, 37, 51, 52, 53, 54, 55, 56, 20, 57, 58, 59, 60, 61, 62, 63, 64, 65, 32, 33, 66, 67, 68, 69, 70, 29, 30, 31, 71, 72, 73, 74, 75, 76, 77, 78] (by decide +kernel) (by decide +kernel)
set_option maxRecDepth 20000 in
theorem gX2_put_X1_moveTo : GoodIn wsX2_put (wsV RX2 58 RX1 yX1_moveTo wsX1_moveTo) := goodIn_app (goodIn_of _ (by decide +kernel)) ggX2_put_X1_moveTo
theorem dX2_put_0 : decode cX2_put 0 = .ok (.aload_n 0, 1) := by decide +kernel
theorem dX2_put_1 : decode cX2_put 1 = .ok (.iload_n 1, 1) := by decide +kernel
theorem dX2_put_2 : decode cX2_put 2 = .ok (.invokevirtual 51, 3) := by decide +kernel
theorem dX2_put_5 : decode cX2_put 5 = .ok (.astore 4, 2) := by decide +kernel
theorem dX2_put_7 : decode cX2_put 7 = .ok (.aload 4, 2) := by decide +kernel
theorem dX2_put_9 : decode cX2_put 9 = .ok (.aload 4, 2) := by decide +kernel
theorem dX2_put_11 : decode cX2_put 11 = .ok (.getfield 55, 3) := by decide +kernel
theorem dX2_put_14 : decode cX2_put 14 = .ok (.lload_n 2, 1) := by decide +kernel
theorem dX2_put_15 : decode cX2_put 15 = .ok (.invokestatic 24, 3) := by decide +kernel
theorem dX2_put_18 : decode cX2_put 18 = .ok (.invokevirtual 58, 3) := by decide +kernel
theorem dX2_put_21 : decode cX2_put 21 = .ok (.aload_n 0, 1) := by decide +kernel
theorem dX2_put_22 : decode cX2_put 22 = .ok (.dup, 1) := by decide +kernel
theorem dX2_put_23 : decode cX2_put 23 = .ok (.getfield 62, 3) := by decide +kernel
theorem dX2_put_26 : decode cX2_put 26 = .ok (.iconst 1, 1) := by decide +kernel
theorem dX2_put_27 : decode cX2_put 27 = .ok (.iadd, 1) := by decide +kernel
theorem dX2_put_28 : decode cX2_put 28 = .ok (.putfield 62, 3) := by decide +kernel
theorem dX2_put_31 : decode cX2_put 31 = .ok (.aload 4, 2) := by decide +kernel
theorem dX2_put_33 : decode cX2_put 33 = .ok (.getfield 65, 3) := by decide +kernel
theorem dX2_put_36 : decode cX2_put 36 = .ok (.lreturn, 1) := by decide +kernel
set_option maxRecDepth 20000 in
theorem ggX2_turn_X2_needleAt : GoodIn wsX2_turn wsX2_needleAt := goodIn_ca (goodIn_r _ [10, 11, 12, 13, 130, 131, 132, 133, 134] (by decide +kernel) (by decide +kernel)) (goodIn_sub (fun _ h => List.mem_cons_of_mem _ (List.mem_append_left _ (List.mem_append_right _ h))) (by decide +kernel))
set_option maxRecDepth 20000 in
theorem gX2_turn_X2_needleAt : GoodIn wsX2_turn (wsV RX2 51 RX2 yX2_needleAt wsX2_needleAt) := goodIn_app (goodIn_of _ (by decide +kernel)) ggX2_turn_X2_needleAt
set_option maxRecDepth 20000 in
theorem ggX2_turn_X2_numberFrom : GoodIn wsX2_turn wsX2_numberFrom := goodIn_ca (goodIn_r _ [16, 17, 18, 19, 20, 21, 22, 23, 24, 25, 26, 27, 28, 29, 30, 31, 32, 33, 34, 35] (by decide +kernel) (by decide +kernel)) (goodIn_sub (fun _ h => List.mem_cons_of_mem _ (List.mem_append_right _ h)) (by decide +kernel))
set_option maxRecDepth 20000 in
theorem gX2_turn_X2_numberFrom : GoodIn wsX2_turn (va_wsS RX2 24 yX2_numberFrom wsX2_numberFrom) := goodIn_app (goodIn_of _ (by decide +kernel)) ggX2_turn_X2_numberFrom
set_option maxRecDepth 20000 in
theorem ggX2_turn_X0_areOppositeInfinities : GoodIn wsX2_turn wsX0_areOppositeInfinities := goodIn_r _ [39, 29, 30, 31, 32, 22, 33, 34, 35, 40, 41, 42, 43] (by decide +kernel) (by decide +kernel)
set_option maxRecDepth 20000 in
theorem gX2_turn_X0_areOppositeInfinities : GoodIn wsX2_turn (wsV RX2 69 RX0 yX0_areOppositeInfinities wsX0_areOppositeInfinities) := goodIn_app (goodIn_of _ (by decide +kernel)) ggX2_turn_X0_areOppositeInfinities
set_option maxRecDepth 20000 in
theorem ggX2_turn_X0_sum : GoodIn wsX2_turn wsX0_sum := goodIn_r _ [47, 30, 31, 32, 22, 33, 34, 35, 48, 49, 50, 51, 29, 52, 53, 54, 55, 56, 57, 58, 59, 60, 61, 62, 63, 64, 65, 66, 67, 68, 69, 70, 71, 72, 73, 74, 75, 76, 77, 78, 79, 80, 81, 82, 83, 84, 85] (by decide +kernel) (by decide +kernel)
set_option maxRecDepth 20000 in
theorem gX2_turn_X0_sum : GoodIn wsX2_turn (wsV RX2 74 RX0 yX0_sum wsX0_sum) := goodIn_app (goodIn_of _ (by decide +kernel)) ggX2_turn_X0_sum
set_option maxRecDepth 20000 in
theorem ggX2_turn_X1_moveTo : GoodIn wsX2_turn wsX1_moveTo := goodIn_r _ [90, 91, 92, 93, 94, 95, 96, 97, 59, 98, 99, 100, 101, 89, 102, 103, 104, 105, 106, 107, 22, 108, 109, 110, 111, 112, 113, 114, 115, 116, 34, 35, 117, 118, 119, 120, 121, 31, 32, 33, 122, 123, 124, 125, 126, 127, 128, 129] (by decide +kernel) (by decide +kernel)
set_option maxRecDepth 20000 in
theorem gX2_turn_X1_moveTo : GoodIn wsX2_turn (wsV RX2 58 RX1 yX1_moveTo wsX1_moveTo) := goodIn_app (goodIn_of _ (by decide +kernel)) ggX2_turn_X1_moveTo
theorem dX2_turn_0 : decode cX2_turn 0 = .ok (.aload_n 0, 1) := by decide +kernel
theorem dX2_turn_1 : decode cX2_turn 1 = .ok (.iload_n 1, 1) := by decide +kernel
theorem dX2_turn_2 : decode cX2_turn 2 = .ok (.invokevirtual 51, 3) := by decide +kernel
theorem dX2_turn_5 : decode cX2_turn 5 = .ok (.astore 4, 2) := by decide +kernel
theorem dX2_turn_7 : decode cX2_turn 7 = .ok (.aload 4, 2) := by decide +kernel
theorem dX2_turn_9 : decode cX2_turn 9 = .ok (.getfield 55, 3) := by decide +kernel
theorem dX2_turn_12 : decode cX2_turn 12 = .ok (.lload_n 2, 1) := by decide +kernel
theorem dX2_turn_13 : decode cX2_turn 13 = .ok (.invokestatic 24, 3) := by decide +kernel
theorem dX2_turn_16 : decode cX2_turn 16 = .ok (.lstore 5, 2) := by decide +kernel
theorem dX2_turn_18 : decode cX2_turn 18 = .ok (.aload 4, 2) := by decide +kernel
theorem dX2_turn_20 : decode cX2_turn 20 = .ok (.getfield 55, 3) := by decide +kernel
theorem dX2_turn_23 : decode cX2_turn 23 = .ok (.aload 4, 2) := by decide +kernel
theorem dX2_turn_25 : decode cX2_turn 25 = .ok (.getfield 65, 3) := by decide +kernel
theorem dX2_turn_28 : decode cX2_turn 28 = .ok (.lload 5, 2) := by decide +kernel
theorem dX2_turn_30 : decode cX2_turn 30 = .ok (.invokevirtual 69, 3) := by decide +kernel
theorem dX2_turn_33 : decode cX2_turn 33 = .ok (.ifCond .eq 13, 3) := by decide +kernel
theorem dX2_turn_36 : decode cX2_turn 36 = .ok (.new 43, 3) := by decide +kernel
theorem dX2_turn_39 : decode cX2_turn 39 = .ok (.dup, 1) := by decide +kernel
theorem dX2_turn_40 : decode cX2_turn 40 = .ok (.ldc 72, 2) := by decide +kernel
theorem dX2_turn_42 : decode cX2_turn 42 = .ok (.invokespecial 47, 3) := by decide +kernel
theorem dX2_turn_45 : decode cX2_turn 45 = .ok (.athrow, 1) := by decide +kernel
theorem dX2_turn_46 : decode cX2_turn 46 = .ok (.aload 4, 2) := by decide +kernel
theorem dX2_turn_48 : decode cX2_turn 48 = .ok (.aload 4, 2) := by decide +kernel
theorem dX2_turn_50 : decode cX2_turn 50 = .ok (.getfield 55, 3) := by decide +kernel
theorem dX2_turn_53 : decode cX2_turn 53 = .ok (.aload 4, 2) := by decide +kernel
theorem dX2_turn_55 : decode cX2_turn 55 = .ok (.getfield 65, 3) := by decide +kernel
theorem dX2_turn_58 : decode cX2_turn 58 = .ok (.lload 5, 2) := by decide +kernel
theorem dX2_turn_60 : decode cX2_turn 60 = .ok (.invokevirtual 74, 3) := by decide +kernel
theorem dX2_turn_63 : decode cX2_turn 63 = .ok (.invokevirtual 58, 3) := by decide +kernel
theorem dX2_turn_66 : decode cX2_turn 66 = .ok (.aload_n 0, 1) := by decide +kernel
theorem dX2_turn_67 : decode cX2_turn 67 = .ok (.dup, 1) := by decide +kernel
theorem dX2_turn_68 : decode cX2_turn 68 = .ok (.getfield 62, 3) := by decide +kernel
theorem dX2_turn_71 : decode cX2_turn 71 = .ok (.iconst 1, 1) := by decide +kernel
theorem dX2_turn_72 : decode cX2_turn 72 = .ok (.iadd, 1) := by decide +kernel
theorem dX2_turn_73 : decode cX2_turn 73 = .ok (.putfield 62, 3) := by decide +kernel
theorem dX2_turn_76 : decode cX2_turn 76 = .ok (.aload 4, 2) := by decide +kernel
theorem dX2_turn_78 : decode cX2_turn 78 = .ok (.getfield 65, 3) := by decide +kernel
theorem dX2_turn_81 : decode cX2_turn 81 = .ok (.lreturn, 1) := by decide +kernel
set_option maxRecDepth 20000 in
theorem ggX2_damp_X2_needleAt : GoodIn wsX2_damp wsX2_needleAt := goodIn_ca (goodIn_r _ [7, 8, 9, 10, 42, 43, 44, 45, 46] (by decide +kernel) (by decide +kernel)) (goodIn_sub (fun _ h => List.mem_cons_of_mem _ (List.mem_append_left _ (List.mem_append_right _ h))) (by decide +kernel))
set_option maxRecDepth 20000 in
theorem gX2_damp_X2_needleAt : GoodIn wsX2_damp (wsV RX2 51 RX2 yX2_needleAt wsX2_needleAt) := goodIn_app (goodIn_of _ (by decide +kernel)) ggX2_damp_X2_needleAt
set_option maxRecDepth 20000 in
theorem ggX2_damp_X2_numberFrom : GoodIn wsX2_damp wsX2_numberFrom := goodIn_ca (goodIn_r _ [13, 14, 15, 16, 17, 18, 19, 20, 21, 22, 23, 24, 25, 26, 27, 28, 29, 30, 31, 32] (by decide +kernel) (by decide +kernel)) (goodIn_sub (fun _ h => List.mem_cons_of_mem _ (List.mem_append_right _ h)) (by decide +kernel))
set_option maxRecDepth 20000 in
theorem gX2_damp_X2_numberFrom : GoodIn wsX2_damp (va_wsS RX2 24 yX2_numberFrom wsX2_numberFrom) := goodIn_app (goodIn_of _ (by decide +kernel)) ggX2_damp_X2_numberFrom
set_option maxRecDepth 20000 in
theorem ggX2_damp_X0_sizeOf : GoodIn wsX2_damp wsX0_sizeOf := goodIn_r _ [30, 31, 32] (by decide +kernel) (by decide +kernel)
set_option maxRecDepth 20000 in
theorem gX2_damp_X0_sizeOf : GoodIn wsX2_damp (wsV RX2 78 RX0 yX0_sizeOf wsX0_sizeOf) := goodIn_app (goodIn_of _ (by decide +kernel)) ggX2_damp_X0_sizeOf
theorem dX2_damp_0 : decode cX2_damp 0 = .ok (.aload_n 0, 1) := by decide +kernel
theorem dX2_damp_1 : decode cX2_damp 1 = .ok (.iload_n 1, 1) := by decide +kernel
theorem dX2_damp_2 : decode cX2_damp 2 = .ok (.invokevirtual 51, 3) := by decide +kernel
theorem dX2_damp_5 : decode cX2_damp 5 = .ok (.astore 4, 2) := by decide +kernel
theorem dX2_damp_7 : decode cX2_damp 7 = .ok (.aload 4, 2) := by decide +kernel
theorem dX2_damp_9 : decode cX2_damp 9 = .ok (.aload 4, 2) := by decide +kernel
theorem dX2_damp_11 : decode cX2_damp 11 = .ok (.getfield 55, 3) := by decide +kernel
theorem dX2_damp_14 : decode cX2_damp 14 = .ok (.aload 4, 2) := by decide +kernel
theorem dX2_damp_16 : decode cX2_damp 16 = .ok (.getfield 55, 3) := by decide +kernel
theorem dX2_damp_19 : decode cX2_damp 19 = .ok (.lload_n 2, 1) := by decide +kernel
theorem dX2_damp_20 : decode cX2_damp 20 = .ok (.invokestatic 24, 3) := by decide +kernel
theorem dX2_damp_23 : decode cX2_damp 23 = .ok (.invokevirtual 78, 3) := by decide +kernel
theorem dX2_damp_26 : decode cX2_damp 26 = .ok (.putfield 82, 3) := by decide +kernel
theorem dX2_damp_29 : decode cX2_damp 29 = .ok (.aload 4, 2) := by decide +kernel
theorem dX2_damp_31 : decode cX2_damp 31 = .ok (.getfield 82, 3) := by decide +kernel
theorem dX2_damp_34 : decode cX2_damp 34 = .ok (.lreturn, 1) := by decide +kernel
set_option maxRecDepth 20000 in
theorem ggX2_pull_X2_needleAt : GoodIn wsX2_pull wsX2_needleAt := goodIn_ca (goodIn_r _ [8, 9, 10, 11, 135, 136, 137, 138, 139] (by decide +kernel) (by decide +kernel)) (goodIn_sub (fun _ h => List.mem_cons_of_mem _ (List.mem_append_left _ (List.mem_append_right _ h))) (by decide +kernel))
set_option maxRecDepth 20000 in
theorem gX2_pull_X2_needleAt : GoodIn wsX2_pull (wsV RX2 51 RX2 yX2_needleAt wsX2_needleAt) := goodIn_app (goodIn_of _ (by decide +kernel)) ggX2_pull_X2_needleAt
set_option maxRecDepth 20000 in
theorem ggX2_pull_X2_numberFrom : GoodIn wsX2_pull wsX2_numberFrom := goodIn_ca (goodIn_r _ [14, 15, 16, 17, 18, 19, 20, 21, 22, 23, 24, 25, 26, 27, 28, 29, 30, 31, 32, 33] (by decide +kernel) (by decide +kernel)) (goodIn_sub (fun _ h => List.mem_cons_of_mem _ (List.mem_append_right _ h)) (by decide +kernel))
set_option maxRecDepth 20000 in
theorem gX2_pull_X2_numberFrom : GoodIn wsX2_pull (va_wsS RX2 24 yX2_numberFrom wsX2_numberFrom) := goodIn_app (goodIn_of _ (by decide +kernel)) ggX2_pull_X2_numberFrom
set_option maxRecDepth 20000 in
theorem ggX2_pull_X1_stepTowards : GoodIn wsX2_pull wsX1_stepTowards := goodIn_r _ [38, 39, 40, 41, 42, 43, 44, 20, 45, 28, 29, 30, 31, 32, 33, 46, 47, 48, 49, 50, 51, 52, 53, 54, 55, 56, 57, 27, 58, 59, 60, 61, 62, 63, 64, 65, 66, 67, 68, 69, 70, 71, 72, 73, 74, 75, 76, 77, 78, 79, 80, 81, 82, 83, 84, 85, 86, 87, 88, 89, 90, 91, 92, 93, 127, 128, 129, 130, 131, 132, 133, 134] (by decide +kernel) (by decide +kernel)
set_option maxRecDepth 20000 in
theorem gX2_pull_X1_stepTowards : GoodIn wsX2_pull (wsV RX2 85 RX1 yX1_stepTowards wsX1_stepTowards) := goodIn_app (goodIn_of _ (by decide +kernel)) ggX2_pull_X1_stepTowards
set_option maxRecDepth 20000 in
theorem ggX2_pull_X1_moveTo : GoodIn wsX2_pull wsX1_moveTo := goodIn_r _ [97, 40, 39, 98, 99, 100, 101, 102, 65, 103, 104, 105, 106, 37, 107, 108, 109, 110, 111, 112, 20, 113, 114, 115, 116, 117, 118, 119, 120, 121, 32, 33, 122, 123, 124, 125, 92, 29, 30, 31, 127, 128, 129, 130, 131, 132, 133, 134] (by decide +kernel) (by decide +kernel)
set_option maxRecDepth 20000 in
theorem gX2_pull_X1_moveTo : GoodIn wsX2_pull (wsV RX2 58 RX1 yX1_moveTo wsX1_moveTo) := goodIn_app (goodIn_of _ (by decide +kernel)) ggX2_pull_X1_moveTo
set_option maxRecDepth 20000 in
theorem ggX2_pull_X0_areAlike : GoodIn wsX2_pull wsX0_areAlike := goodIn_r _ [45, 28, 29, 30, 20, 31, 32, 33] (by decide +kernel) (by decide +kernel)
set_option maxRecDepth 20000 in
theorem gX2_pull_X0_areAlike : GoodIn wsX2_pull (wsV RX2 88 RX0 yX0_areAlike wsX0_areAlike) := goodIn_app (goodIn_of _ (by decide +kernel)) ggX2_pull_X0_areAlike
theorem dX2_pull_0 : decode cX2_pull 0 = .ok (.aload_n 0, 1) := by decide +kernel
theorem dX2_pull_1 : decode cX2_pull 1 = .ok (.iload_n 1, 1) := by decide +kernel
theorem dX2_pull_2 : decode cX2_pull 2 = .ok (.invokevirtual 51, 3) := by decide +kernel
theorem dX2_pull_5 : decode cX2_pull 5 = .ok (.astore 4, 2) := by decide +kernel
theorem dX2_pull_7 : decode cX2_pull 7 = .ok (.aload 4, 2) := by decide +kernel
theorem dX2_pull_9 : decode cX2_pull 9 = .ok (.getfield 55, 3) := by decide +kernel
theorem dX2_pull_12 : decode cX2_pull 12 = .ok (.lload_n 2, 1) := by decide +kernel
theorem dX2_pull_13 : decode cX2_pull 13 = .ok (.invokestatic 24, 3) := by decide +kernel
theorem dX2_pull_16 : decode cX2_pull 16 = .ok (.lstore 5, 2) := by decide +kernel
theorem dX2_pull_18 : decode cX2_pull 18 = .ok (.aload 4, 2) := by decide +kernel
theorem dX2_pull_20 : decode cX2_pull 20 = .ok (.aload 4, 2) := by decide +kernel
theorem dX2_pull_22 : decode cX2_pull 22 = .ok (.lload 5, 2) := by decide +kernel
theorem dX2_pull_24 : decode cX2_pull 24 = .ok (.invokevirtual 85, 3) := by decide +kernel
theorem dX2_pull_27 : decode cX2_pull 27 = .ok (.invokevirtual 58, 3) := by decide +kernel
theorem dX2_pull_30 : decode cX2_pull 30 = .ok (.aload_n 0, 1) := by decide +kernel
theorem dX2_pull_31 : decode cX2_pull 31 = .ok (.dup, 1) := by decide +kernel
theorem dX2_pull_32 : decode cX2_pull 32 = .ok (.getfield 62, 3) := by decide +kernel
theorem dX2_pull_35 : decode cX2_pull 35 = .ok (.iconst 1, 1) := by decide +kernel
theorem dX2_pull_36 : decode cX2_pull 36 = .ok (.iadd, 1) := by decide +kernel
theorem dX2_pull_37 : decode cX2_pull 37 = .ok (.putfield 62, 3) := by decide +kernel
theorem dX2_pull_40 : decode cX2_pull 40 = .ok (.aload 4, 2) := by decide +kernel
theorem dX2_pull_42 : decode cX2_pull 42 = .ok (.getfield 55, 3) := by decide +kernel
theorem dX2_pull_45 : decode cX2_pull 45 = .ok (.aload 4, 2) := by decide +kernel
theorem dX2_pull_47 : decode cX2_pull 47 = .ok (.getfield 65, 3) := by decide +kernel
theorem dX2_pull_50 : decode cX2_pull 50 = .ok (.lload 5, 2) := by decide +kernel
theorem dX2_pull_52 : decode cX2_pull 52 = .ok (.invokevirtual 88, 3) := by decide +kernel
theorem dX2_pull_55 : decode cX2_pull 55 = .ok (.ireturn, 1) := by decide +kernel
set_option maxRecDepth 20000 in
theorem ggX2_rest_X2_needleAt : GoodIn wsX2_rest wsX2_needleAt := goodIn_ca (goodIn_r _ [10, 11, 12, 13, 103, 104, 105, 106, 107] (by decide +kernel) (by decide +kernel)) (goodIn_sub (fun _ h => List.mem_cons_of_mem _ (List.mem_append_right _ h)) (by decide +kernel))
set_option maxRecDepth 20000 in
theorem gX2_rest_X2_needleAt : GoodIn wsX2_rest (wsV RX2 51 RX2 yX2_needleAt wsX2_needleAt) := goodIn_app (goodIn_of _ (by decide +kernel)) ggX2_rest_X2_needleAt
set_option maxRecDepth 20000 in
theorem ggX2_rest_X0_wholeOf : GoodIn wsX2_rest wsX0_wholeOf := goodIn_r _ [18, 19, 20, 21, 22, 23, 17, 24, 25, 26, 27, 28, 29, 30, 31, 32, 33, 34, 35, 36, 37, 38, 39, 40, 41, 42, 43, 44, 45, 46, 47, 48, 49, 50, 51, 52, 53, 54, 55, 56, 57, 58] (by decide +kernel) (by decide +kernel)
set_option maxRecDepth 20000 in
theorem gX2_rest_X0_wholeOf : GoodIn wsX2_rest (wsV RX2 93 RX0 yX0_wholeOf wsX0_wholeOf) := goodIn_app (goodIn_of _ (by decide +kernel)) ggX2_rest_X0_wholeOf
set_option maxRecDepth 20000 in
theorem ggX2_rest_X1_moveTo : GoodIn wsX2_rest wsX1_moveTo := goodIn_r _ [63, 64, 65, 66, 67, 68, 69, 70, 33, 71, 72, 73, 74, 62, 75, 76, 77, 78, 79, 80, 17, 81, 82, 83, 84, 85, 86, 87, 88, 89, 25, 26, 90, 91, 92, 93, 94, 22, 23, 24, 95, 96, 97, 98, 99, 100, 101, 102] (by decide +kernel) (by decide +kernel)
set_option maxRecDepth 20000 in
theorem gX2_rest_X1_moveTo : GoodIn wsX2_rest (wsV RX2 58 RX1 yX1_moveTo wsX1_moveTo) := goodIn_app (goodIn_of _ (by decide +kernel)) ggX2_rest_X1_moveTo
theorem dX2_rest_0 : decode cX2_rest 0 = .ok (.aload_n 0, 1) := by decide +kernel
theorem dX2_rest_1 : decode cX2_rest 1 = .ok (.iload_n 1, 1) := by decide +kernel
theorem dX2_rest_2 : decode cX2_rest 2 = .ok (.invokevirtual 51, 3) := by decide +kernel
theorem dX2_rest_5 : decode cX2_rest 5 = .ok (.astore_n 3, 1) := by decide +kernel
theorem dX2_rest_6 : decode cX2_rest 6 = .ok (.iload_n 2, 1) := by decide +kernel
theorem dX2_rest_7 : decode cX2_rest 7 = .ok (.ifCond .lt 8, 3) := by decide +kernel
theorem dX2_rest_10 : decode cX2_rest 10 = .ok (.iload_n 2, 1) := by decide +kernel
theorem dX2_rest_11 : decode cX2_rest 11 = .ok (.iconst 2, 1) := by decide +kernel
theorem dX2_rest_12 : decode cX2_rest 12 = .ok (.if_icmp .le 13, 3) := by decide +kernel
theorem dX2_rest_15 : decode cX2_rest 15 = .ok (.new 32, 3) := by decide +kernel
theorem dX2_rest_18 : decode cX2_rest 18 = .ok (.dup, 1) := by decide +kernel
theorem dX2_rest_19 : decode cX2_rest 19 = .ok (.ldc 91, 2) := by decide +kernel
theorem dX2_rest_21 : decode cX2_rest 21 = .ok (.invokespecial 36, 3) := by decide +kernel
theorem dX2_rest_24 : decode cX2_rest 24 = .ok (.athrow, 1) := by decide +kernel
theorem dX2_rest_25 : decode cX2_rest 25 = .ok (.aload_n 3, 1) := by decide +kernel
theorem dX2_rest_26 : decode cX2_rest 26 = .ok (.aload_n 3, 1) := by decide +kernel
theorem dX2_rest_27 : decode cX2_rest 27 = .ok (.getfield 55, 3) := by decide +kernel
theorem dX2_rest_30 : decode cX2_rest 30 = .ok (.aload_n 3, 1) := by decide +kernel
theorem dX2_rest_31 : decode cX2_rest 31 = .ok (.getfield 65, 3) := by decide +kernel
theorem dX2_rest_34 : decode cX2_rest 34 = .ok (.iload_n 2, 1) := by decide +kernel
theorem dX2_rest_35 : decode cX2_rest 35 = .ok (.invokevirtual 93, 3) := by decide +kernel
theorem dX2_rest_38 : decode cX2_rest 38 = .ok (.invokevirtual 58, 3) := by decide +kernel
theorem dX2_rest_41 : decode cX2_rest 41 = .ok (.aload_n 0, 1) := by decide +kernel
theorem dX2_rest_42 : decode cX2_rest 42 = .ok (.dup, 1) := by decide +kernel
theorem dX2_rest_43 : decode cX2_rest 43 = .ok (.getfield 62, 3) := by decide +kernel
theorem dX2_rest_46 : decode cX2_rest 46 = .ok (.iconst 1, 1) := by decide +kernel
theorem dX2_rest_47 : decode cX2_rest 47 = .ok (.iadd, 1) := by decide +kernel
theorem dX2_rest_48 : decode cX2_rest 48 = .ok (.putfield 62, 3) := by decide +kernel
theorem dX2_rest_51 : decode cX2_rest 51 = .ok (.aload_n 3, 1) := by decide +kernel
theorem dX2_rest_52 : decode cX2_rest 52 = .ok (.getfield 65, 3) := by decide +kernel
theorem dX2_rest_55 : decode cX2_rest 55 = .ok (.lreturn, 1) := by decide +kernel
set_option maxRecDepth 20000 in
theorem ggX2_face_X2_needleAt : GoodIn wsX2_face wsX2_needleAt := goodIn_ca (goodIn_r _ [8, 9, 10, 11, 68, 69, 70, 71, 72] (by decide +kernel) (by decide +kernel)) (goodIn_sub (fun _ h => List.mem_cons_of_mem _ (List.mem_append_right _ h)) (by decide +kernel))
set_option maxRecDepth 20000 in
theorem gX2_face_X2_needleAt : GoodIn wsX2_face (wsV RX2 51 RX2 yX2_needleAt wsX2_needleAt) := goodIn_app (goodIn_of _ (by decide +kernel)) ggX2_face_X2_needleAt
set_option maxRecDepth 20000 in
theorem ggX2_face_X0_withSideOf : GoodIn wsX2_face wsX0_withSideOf := goodIn_r _ [16, 17, 18, 19, 20, 15, 21, 22] (by decide +kernel) (by decide +kernel)
set_option maxRecDepth 20000 in
theorem gX2_face_X0_withSideOf : GoodIn wsX2_face (wsV RX2 97 RX0 yX0_withSideOf wsX0_withSideOf) := goodIn_app (goodIn_of _ (by decide +kernel)) ggX2_face_X0_withSideOf
set_option maxRecDepth 20000 in
theorem ggX2_face_X1_moveTo : GoodIn wsX2_face wsX1_moveTo := goodIn_r _ [27, 28, 29, 30, 31, 32, 33, 34, 35, 36, 37, 38, 39, 26, 40, 41, 42, 43, 44, 45, 15, 46, 47, 48, 49, 50, 51, 52, 53, 54, 17, 22, 55, 56, 57, 58, 59, 19, 20, 21, 60, 61, 62, 63, 64, 65, 66, 67] (by decide +kernel) (by decide +kernel)
set_option maxRecDepth 20000 in
theorem gX2_face_X1_moveTo : GoodIn wsX2_face (wsV RX2 58 RX1 yX1_moveTo wsX1_moveTo) := goodIn_app (goodIn_of _ (by decide +kernel)) ggX2_face_X1_moveTo
theorem dX2_face_0 : decode cX2_face 0 = .ok (.aload_n 0, 1) := by decide +kernel
theorem dX2_face_1 : decode cX2_face 1 = .ok (.iload_n 1, 1) := by decide +kernel
theorem dX2_face_2 : decode cX2_face 2 = .ok (.invokevirtual 51, 3) := by decide +kernel
theorem dX2_face_5 : decode cX2_face 5 = .ok (.astore_n 3, 1) := by decide +kernel
theorem dX2_face_6 : decode cX2_face 6 = .ok (.aload_n 0, 1) := by decide +kernel
theorem dX2_face_7 : decode cX2_face 7 = .ok (.iload_n 2, 1) := by decide +kernel
theorem dX2_face_8 : decode cX2_face 8 = .ok (.invokevirtual 51, 3) := by decide +kernel
theorem dX2_face_11 : decode cX2_face 11 = .ok (.astore 4, 2) := by decide +kernel
theorem dX2_face_13 : decode cX2_face 13 = .ok (.aload_n 3, 1) := by decide +kernel
theorem dX2_face_14 : decode cX2_face 14 = .ok (.aload_n 3, 1) := by decide +kernel
theorem dX2_face_15 : decode cX2_face 15 = .ok (.getfield 55, 3) := by decide +kernel
theorem dX2_face_18 : decode cX2_face 18 = .ok (.aload_n 3, 1) := by decide +kernel
theorem dX2_face_19 : decode cX2_face 19 = .ok (.getfield 65, 3) := by decide +kernel
theorem dX2_face_22 : decode cX2_face 22 = .ok (.aload 4, 2) := by decide +kernel
theorem dX2_face_24 : decode cX2_face 24 = .ok (.getfield 65, 3) := by decide +kernel
theorem dX2_face_27 : decode cX2_face 27 = .ok (.invokevirtual 97, 3) := by decide +kernel
theorem dX2_face_30 : decode cX2_face 30 = .ok (.invokevirtual 58, 3) := by decide +kernel
theorem dX2_face_33 : decode cX2_face 33 = .ok (.aload_n 0, 1) := by decide +kernel
theorem dX2_face_34 : decode cX2_face 34 = .ok (.dup, 1) := by decide +kernel
theorem dX2_face_35 : decode cX2_face 35 = .ok (.getfield 62, 3) := by decide +kernel
theorem dX2_face_38 : decode cX2_face 38 = .ok (.iconst 1, 1) := by decide +kernel
theorem dX2_face_39 : decode cX2_face 39 = .ok (.iadd, 1) := by decide +kernel
theorem dX2_face_40 : decode cX2_face 40 = .ok (.putfield 62, 3) := by decide +kernel
theorem dX2_face_43 : decode cX2_face 43 = .ok (.aload_n 3, 1) := by decide +kernel
theorem dX2_face_44 : decode cX2_face 44 = .ok (.getfield 65, 3) := by decide +kernel
theorem dX2_face_47 : decode cX2_face 47 = .ok (.lreturn, 1) := by decide +kernel
set_option maxRecDepth 20000 in
theorem ggX2_read_X2_needleAt : GoodIn wsX2_read wsX2_needleAt := goodIn_ca (goodIn_r _ [15, 16, 17, 18, 44, 45, 46, 47, 48] (by decide +kernel) (by decide +kernel)) (goodIn_sub (fun _ h => List.mem_cons_of_mem _ (List.mem_append_right _ h)) (by decide +kernel))
set_option maxRecDepth 20000 in
theorem gX2_read_X2_needleAt : GoodIn wsX2_read (wsV RX2 51 RX2 yX2_needleAt wsX2_needleAt) := goodIn_app (goodIn_of _ (by decide +kernel)) ggX2_read_X2_needleAt
set_option maxRecDepth 20000 in
theorem ggX2_read_X0_sizeOf : GoodIn wsX2_read wsX0_sizeOf := goodIn_r _ [23, 24, 25] (by decide +kernel) (by decide +kernel)
set_option maxRecDepth 20000 in
theorem gX2_read_X0_sizeOf : GoodIn wsX2_read (wsV RX2 78 RX0 yX0_sizeOf wsX0_sizeOf) := goodIn_app (goodIn_of _ (by decide +kernel)) ggX2_read_X0_sizeOf
set_option maxRecDepth 20000 in
theorem ggX2_read_X0_unitOf : GoodIn wsX2_read wsX0_unitOf := goodIn_r _ [29, 30, 31, 20, 21, 22, 23, 24, 25, 32, 33, 34, 35] (by decide +kernel) (by decide +kernel)
set_option maxRecDepth 20000 in
theorem gX2_read_X0_unitOf : GoodIn wsX2_read (wsV RX2 115 RX0 yX0_unitOf wsX0_unitOf) := goodIn_app (goodIn_of _ (by decide +kernel)) ggX2_read_X0_unitOf
theorem dX2_read_0 : decode cX2_read 0 = .ok (.aload_n 0, 1) := by decide +kernel
theorem dX2_read_1 : decode cX2_read 1 = .ok (.iload_n 1, 1) := by decide +kernel
theorem dX2_read_2 : decode cX2_read 2 = .ok (.invokevirtual 51, 3) := by decide +kernel
theorem dX2_read_5 : decode cX2_read 5 = .ok (.astore_n 3, 1) := by decide +kernel
theorem dX2_read_6 : decode cX2_read 6 = .ok (.iload_n 2, 1) := by decide +kernel
theorem dX2_read_7 : decode cX2_read 7 = .ok (.tableswitch 108 0 8 #[49, 54, 59, 64, 69, 74, 79, 84, 96], 49) := by decide +kernel
theorem dX2_read_56 : decode cX2_read 56 = .ok (.aload_n 3, 1) := by decide +kernel
theorem dX2_read_57 : decode cX2_read 57 = .ok (.getfield 65, 3) := by decide +kernel
theorem dX2_read_60 : decode cX2_read 60 = .ok (.lreturn, 1) := by decide +kernel
theorem dX2_read_61 : decode cX2_read 61 = .ok (.aload_n 3, 1) := by decide +kernel
theorem dX2_read_62 : decode cX2_read 62 = .ok (.getfield 100, 3) := by decide +kernel
theorem dX2_read_65 : decode cX2_read 65 = .ok (.lreturn, 1) := by decide +kernel
theorem dX2_read_66 : decode cX2_read 66 = .ok (.aload_n 3, 1) := by decide +kernel
theorem dX2_read_67 : decode cX2_read 67 = .ok (.getfield 103, 3) := by decide +kernel
theorem dX2_read_70 : decode cX2_read 70 = .ok (.lreturn, 1) := by decide +kernel
theorem dX2_read_71 : decode cX2_read 71 = .ok (.aload_n 3, 1) := by decide +kernel
theorem dX2_read_72 : decode cX2_read 72 = .ok (.getfield 106, 3) := by decide +kernel
theorem dX2_read_75 : decode cX2_read 75 = .ok (.lreturn, 1) := by decide +kernel
theorem dX2_read_76 : decode cX2_read 76 = .ok (.aload_n 3, 1) := by decide +kernel
theorem dX2_read_77 : decode cX2_read 77 = .ok (.getfield 109, 3) := by decide +kernel
theorem dX2_read_80 : decode cX2_read 80 = .ok (.lreturn, 1) := by decide +kernel
theorem dX2_read_81 : decode cX2_read 81 = .ok (.aload_n 3, 1) := by decide +kernel
theorem dX2_read_82 : decode cX2_read 82 = .ok (.getfield 112, 3) := by decide +kernel
theorem dX2_read_85 : decode cX2_read 85 = .ok (.lreturn, 1) := by decide +kernel
theorem dX2_read_86 : decode cX2_read 86 = .ok (.aload_n 3, 1) := by decide +kernel
theorem dX2_read_87 : decode cX2_read 87 = .ok (.getfield 82, 3) := by decide +kernel
theorem dX2_read_90 : decode cX2_read 90 = .ok (.lreturn, 1) := by decide +kernel
theorem dX2_read_91 : decode cX2_read 91 = .ok (.aload_n 3, 1) := by decide +kernel
theorem dX2_read_92 : decode cX2_read 92 = .ok (.getfield 55, 3) := by decide +kernel
theorem dX2_read_95 : decode cX2_read 95 = .ok (.aload_n 3, 1) := by decide +kernel
theorem dX2_read_96 : decode cX2_read 96 = .ok (.getfield 65, 3) := by decide +kernel
theorem dX2_read_99 : decode cX2_read 99 = .ok (.invokevirtual 78, 3) := by decide +kernel
theorem dX2_read_102 : decode cX2_read 102 = .ok (.lreturn, 1) := by decide +kernel
theorem dX2_read_103 : decode cX2_read 103 = .ok (.aload_n 3, 1) := by decide +kernel
theorem dX2_read_104 : decode cX2_read 104 = .ok (.getfield 55, 3) := by decide +kernel
theorem dX2_read_107 : decode cX2_read 107 = .ok (.aload_n 3, 1) := by decide +kernel
theorem dX2_read_108 : decode cX2_read 108 = .ok (.getfield 65, 3) := by decide +kernel
theorem dX2_read_111 : decode cX2_read 111 = .ok (.invokevirtual 115, 3) := by decide +kernel
theorem dX2_read_114 : decode cX2_read 114 = .ok (.lreturn, 1) := by decide +kernel
theorem dX2_read_115 : decode cX2_read 115 = .ok (.new 32, 3) := by decide +kernel
theorem dX2_read_118 : decode cX2_read 118 = .ok (.dup, 1) := by decide +kernel
theorem dX2_read_119 : decode cX2_read 119 = .ok (.ldc 118, 2) := by decide +kernel
theorem dX2_read_121 : decode cX2_read 121 = .ok (.invokespecial 36, 3) := by decide +kernel
theorem dX2_read_124 : decode cX2_read 124 = .ok (.athrow, 1) := by decide +kernel
set_option maxRecDepth 20000 in
theorem ggX2_between_X2_needleAt : GoodIn wsX2_between wsX2_needleAt := goodIn_ca (goodIn_r _ [16, 17, 18, 19, 51, 52, 53, 54, 55] (by decide +kernel) (by decide +kernel)) (goodIn_sub (fun _ h => List.mem_cons_of_mem _ (List.mem_append_right _ h)) (by decide +kernel))
set_option maxRecDepth 20000 in
theorem gX2_between_X2_needleAt : GoodIn wsX2_between (wsV RX2 51 RX2 yX2_needleAt wsX2_needleAt) := goodIn_app (goodIn_of _ (by decide +kernel)) ggX2_between_X2_needleAt
set_option maxRecDepth 20000 in
theorem ggX2_between_X0_lesserOf : GoodIn wsX2_between wsX0_lesserOf := goodIn_r _ [24, 25, 26, 27, 23, 28, 29, 30, 31, 32, 33, 34] (by decide +kernel) (by decide +kernel)
set_option maxRecDepth 20000 in
theorem gX2_between_X0_lesserOf : GoodIn wsX2_between (wsV RX2 122 RX0 yX0_lesserOf wsX0_lesserOf) := goodIn_app (goodIn_of _ (by decide +kernel)) ggX2_between_X0_lesserOf
set_option maxRecDepth 20000 in
theorem ggX2_between_X0_greaterOf : GoodIn wsX2_between wsX0_greaterOf := goodIn_r _ [38, 25, 26, 27, 23, 28, 29, 30, 31, 32, 33, 34] (by decide +kernel) (by decide +kernel)
set_option maxRecDepth 20000 in
theorem gX2_between_X0_greaterOf : GoodIn wsX2_between (wsV RX2 125 RX0 yX0_greaterOf wsX0_greaterOf) := goodIn_app (goodIn_of _ (by decide +kernel)) ggX2_between_X0_greaterOf
set_option maxRecDepth 20000 in
theorem ggX2_between_X0_sizeOf : GoodIn wsX2_between wsX0_sizeOf := goodIn_r _ [42, 33, 34] (by decide +kernel) (by decide +kernel)
set_option maxRecDepth 20000 in
theorem gX2_between_X0_sizeOf : GoodIn wsX2_between (wsV RX2 78 RX0 yX0_sizeOf wsX0_sizeOf) := goodIn_app (goodIn_of _ (by decide +kernel)) ggX2_between_X0_sizeOf
theorem dX2_between_0 : decode cX2_between 0 = .ok (.aload_n 0, 1) := by decide +kernel
theorem dX2_between_1 : decode cX2_between 1 = .ok (.iload_n 1, 1) := by decide +kernel
theorem dX2_between_2 : decode cX2_between 2 = .ok (.invokevirtual 51, 3) := by decide +kernel
theorem dX2_between_5 : decode cX2_between 5 = .ok (.astore 4, 2) := by decide +kernel
theorem dX2_between_7 : decode cX2_between 7 = .ok (.aload_n 0, 1) := by decide +kernel
theorem dX2_between_8 : decode cX2_between 8 = .ok (.iload_n 2, 1) := by decide +kernel
theorem dX2_between_9 : decode cX2_between 9 = .ok (.invokevirtual 51, 3) := by decide +kernel
theorem dX2_between_12 : decode cX2_between 12 = .ok (.astore 5, 2) := by decide +kernel
theorem dX2_between_14 : decode cX2_between 14 = .ok (.aload 4, 2) := by decide +kernel
theorem dX2_between_16 : decode cX2_between 16 = .ok (.getfield 55, 3) := by decide +kernel
theorem dX2_between_19 : decode cX2_between 19 = .ok (.astore 6, 2) := by decide +kernel
theorem dX2_between_21 : decode cX2_between 21 = .ok (.aload 6, 2) := by decide +kernel
theorem dX2_between_23 : decode cX2_between 23 = .ok (.aload 5, 2) := by decide +kernel
theorem dX2_between_25 : decode cX2_between 25 = .ok (.getfield 55, 3) := by decide +kernel
theorem dX2_between_28 : decode cX2_between 28 = .ok (.if_acmp .eq 13, 3) := by decide +kernel
theorem dX2_between_31 : decode cX2_between 31 = .ok (.new 32, 3) := by decide +kernel
theorem dX2_between_34 : decode cX2_between 34 = .ok (.dup, 1) := by decide +kernel
theorem dX2_between_35 : decode cX2_between 35 = .ok (.ldc 120, 2) := by decide +kernel
theorem dX2_between_37 : decode cX2_between 37 = .ok (.invokespecial 36, 3) := by decide +kernel
theorem dX2_between_40 : decode cX2_between 40 = .ok (.athrow, 1) := by decide +kernel
theorem dX2_between_41 : decode cX2_between 41 = .ok (.iload_n 3, 1) := by decide +kernel
theorem dX2_between_42 : decode cX2_between 42 = .ok (.tableswitch 110 0 3 #[30, 46, 62, 86], 30) := by decide +kernel
theorem dX2_between_72 : decode cX2_between 72 = .ok (.aload 6, 2) := by decide +kernel
theorem dX2_between_74 : decode cX2_between 74 = .ok (.aload 4, 2) := by decide +kernel
theorem dX2_between_76 : decode cX2_between 76 = .ok (.getfield 65, 3) := by decide +kernel
theorem dX2_between_79 : decode cX2_between 79 = .ok (.aload 5, 2) := by decide +kernel
theorem dX2_between_81 : decode cX2_between 81 = .ok (.getfield 65, 3) := by decide +kernel
theorem dX2_between_84 : decode cX2_between 84 = .ok (.invokevirtual 122, 3) := by decide +kernel
theorem dX2_between_87 : decode cX2_between 87 = .ok (.lreturn, 1) := by decide +kernel
theorem dX2_between_88 : decode cX2_between 88 = .ok (.aload 6, 2) := by decide +kernel
theorem dX2_between_90 : decode cX2_between 90 = .ok (.aload 4, 2) := by decide +kernel
theorem dX2_between_92 : decode cX2_between 92 = .ok (.getfield 65, 3) := by decide +kernel
theorem dX2_between_95 : decode cX2_between 95 = .ok (.aload 5, 2) := by decide +kernel
theorem dX2_between_97 : decode cX2_between 97 = .ok (.getfield 65, 3) := by decide +kernel
theorem dX2_between_100 : decode cX2_between 100 = .ok (.invokevirtual 125, 3) := by decide +kernel
theorem dX2_between_103 : decode cX2_between 103 = .ok (.lreturn, 1) := by decide +kernel
theorem dX2_between_104 : decode cX2_between 104 = .ok (.aload 6, 2) := by decide +kernel
theorem dX2_between_106 : decode cX2_between 106 = .ok (.aload 4, 2) := by decide +kernel
theorem dX2_between_108 : decode cX2_between 108 = .ok (.getfield 65, 3) := by decide +kernel
theorem dX2_between_111 : decode cX2_between 111 = .ok (.invokevirtual 78, 3) := by decide +kernel
theorem dX2_between_114 : decode cX2_between 114 = .ok (.aload 6, 2) := by decide +kernel
theorem dX2_between_116 : decode cX2_between 116 = .ok (.aload 5, 2) := by decide +kernel
theorem dX2_between_118 : decode cX2_between 118 = .ok (.getfield 65, 3) := by decide +kernel
theorem dX2_between_121 : decode cX2_between 121 = .ok (.invokevirtual 78, 3) := by decide +kernel
theorem dX2_between_124 : decode cX2_between 124 = .ok (.invokestatic 128, 3) := by decide +kernel
theorem dX2_between_127 : decode cX2_between 127 = .ok (.lreturn, 1) := by decide +kernel
theorem dX2_between_128 : decode cX2_between 128 = .ok (.aload 6, 2) := by decide +kernel
theorem dX2_between_130 : decode cX2_between 130 = .ok (.aload 4, 2) := by decide +kernel
theorem dX2_between_132 : decode cX2_between 132 = .ok (.getfield 65, 3) := by decide +kernel
theorem dX2_between_135 : decode cX2_between 135 = .ok (.invokevirtual 78, 3) := by decide +kernel
theorem dX2_between_138 : decode cX2_between 138 = .ok (.aload 6, 2) := by decide +kernel
theorem dX2_between_140 : decode cX2_between 140 = .ok (.aload 5, 2) := by decide +kernel
theorem dX2_between_142 : decode cX2_between 142 = .ok (.getfield 65, 3) := by decide +kernel
theorem dX2_between_145 : decode cX2_between 145 = .ok (.invokevirtual 78, 3) := by decide +kernel
theorem dX2_between_148 : decode cX2_between 148 = .ok (.invokestatic 133, 3) := by decide +kernel
theorem dX2_between_151 : decode cX2_between 151 = .ok (.lreturn, 1) := by decide +kernel
theorem dX2_between_152 : decode cX2_between 152 = .ok (.new 32, 3) := by decide +kernel
theorem dX2_between_155 : decode cX2_between 155 = .ok (.dup, 1) := by decide +kernel
theorem dX2_between_156 : decode cX2_between 156 = .ok (.ldc 136, 2) := by decide +kernel
theorem dX2_between_158 : decode cX2_between 158 = .ok (.invokespecial 36, 3) := by decide +kernel
theorem dX2_between_161 : decode cX2_between 161 = .ok (.athrow, 1) := by decide +kernel
set_option maxRecDepth 20000 in
theorem ggX2_order_X2_needleAt : GoodIn wsX2_order wsX2_needleAt := goodIn_ca (goodIn_r _ [6, 7, 8, 9, 73, 74, 75, 76, 77] (by decide +kernel) (by decide +kernel)) (goodIn_sub (fun _ h => List.mem_cons_of_mem _ (List.mem_append_right _ h)) (by decide +kernel))
set_option maxRecDepth 20000 in
theorem gX2_order_X2_needleAt : GoodIn wsX2_order (wsV RX2 51 RX2 yX2_needleAt wsX2_needleAt) := goodIn_app (goodIn_of _ (by decide +kernel)) ggX2_order_X2_needleAt
set_option maxRecDepth 20000 in
theorem ggX2_order_X1_fineValue : GoodIn wsX2_order wsX1_fineValue := goodIn_r _ [14, 15, 16, 17, 18, 19, 20, 21, 22, 23, 24, 25, 26, 27, 28, 29, 30, 31, 32, 33, 34, 35, 36, 37, 38, 39, 40, 41, 42, 43, 44, 45, 46, 47, 48, 49, 50, 51, 52, 53, 54, 55, 56, 57, 58, 59, 60, 61, 62, 63, 64, 78, 79, 80, 81, 82, 83, 84, 85] (by decide +kernel) (by decide +kernel)
set_option maxRecDepth 20000 in
theorem gX2_order_X1_fineValue : GoodIn wsX2_order (wsV RX2 138 RX1 yX1_fineValue wsX1_fineValue) := goodIn_app (goodIn_of _ (by decide +kernel)) ggX2_order_X1_fineValue
set_option maxRecDepth 20000 in
theorem ggX2_order_X0_isBelow : GoodIn wsX2_order wsX0_isBelow := goodIn_r _ [68, 69, 70, 71, 20, 72, 31, 32] (by decide +kernel) (by decide +kernel)
set_option maxRecDepth 20000 in
theorem gX2_order_X0_isBelow : GoodIn wsX2_order (wsV RX2 28 RX0 yX0_isBelow wsX0_isBelow) := goodIn_app (goodIn_of _ (by decide +kernel)) ggX2_order_X0_isBelow
theorem dX2_order_0 : decode cX2_order 0 = .ok (.aload_n 0, 1) := by decide +kernel
theorem dX2_order_1 : decode cX2_order 1 = .ok (.iload_n 1, 1) := by decide +kernel
theorem dX2_order_2 : decode cX2_order 2 = .ok (.invokevirtual 51, 3) := by decide +kernel
theorem dX2_order_5 : decode cX2_order 5 = .ok (.invokevirtual 138, 3) := by decide +kernel
theorem dX2_order_8 : decode cX2_order 8 = .ok (.lstore_n 3, 1) := by decide +kernel
theorem dX2_order_9 : decode cX2_order 9 = .ok (.aload_n 0, 1) := by decide +kernel
theorem dX2_order_10 : decode cX2_order 10 = .ok (.iload_n 2, 1) := by decide +kernel
theorem dX2_order_11 : decode cX2_order 11 = .ok (.invokevirtual 51, 3) := by decide +kernel
theorem dX2_order_14 : decode cX2_order 14 = .ok (.invokevirtual 138, 3) := by decide +kernel
theorem dX2_order_17 : decode cX2_order 17 = .ok (.lstore 5, 2) := by decide +kernel
theorem dX2_order_19 : decode cX2_order 19 = .ok (.getstatic 15, 3) := by decide +kernel
theorem dX2_order_22 : decode cX2_order 22 = .ok (.lload_n 3, 1) := by decide +kernel
theorem dX2_order_23 : decode cX2_order 23 = .ok (.lload 5, 2) := by decide +kernel
theorem dX2_order_25 : decode cX2_order 25 = .ok (.invokevirtual 28, 3) := by decide +kernel
theorem dX2_order_28 : decode cX2_order 28 = .ok (.ifCond .eq 5, 3) := by decide +kernel
theorem dX2_order_31 : decode cX2_order 31 = .ok (.iconst (-1), 1) := by decide +kernel
theorem dX2_order_32 : decode cX2_order 32 = .ok (.ireturn, 1) := by decide +kernel
theorem dX2_order_33 : decode cX2_order 33 = .ok (.lload_n 3, 1) := by decide +kernel
theorem dX2_order_34 : decode cX2_order 34 = .ok (.lload 5, 2) := by decide +kernel
theorem dX2_order_36 : decode cX2_order 36 = .ok (.lcmp, 1) := by decide +kernel
theorem dX2_order_37 : decode cX2_order 37 = .ok (.ifCond .ne 7, 3) := by decide +kernel
theorem dX2_order_40 : decode cX2_order 40 = .ok (.iconst 0, 1) := by decide +kernel
theorem dX2_order_41 : decode cX2_order 41 = .ok (.goto 4, 3) := by decide +kernel
theorem dX2_order_44 : decode cX2_order 44 = .ok (.iconst 1, 1) := by decide +kernel
theorem dX2_order_45 : decode cX2_order 45 = .ok (.ireturn, 1) := by decide +kernel
set_option maxRecDepth 20000 in
theorem ggX2_back_X2_needleAt : GoodIn wsX2_back wsX2_needleAt := goodIn_ca (goodIn_r _ [5, 6, 7, 8, 48, 49, 50, 51, 52] (by decide +kernel) (by decide +kernel)) (goodIn_sub (fun _ h => List.mem_cons_of_mem _ (List.mem_append_right _ h)) (by decide +kernel))
set_option maxRecDepth 20000 in
theorem gX2_back_X2_needleAt : GoodIn wsX2_back (wsV RX2 51 RX2 yX2_needleAt wsX2_needleAt) := goodIn_app (goodIn_of _ (by decide +kernel)) ggX2_back_X2_needleAt
set_option maxRecDepth 20000 in
theorem ggX2_back_X1_startAgain : GoodIn wsX2_back wsX1_startAgain := goodIn_r _ [13, 14, 15, 16, 17, 18, 19, 20, 21, 12, 22, 23, 24, 25, 26, 27, 28, 29, 30, 31, 32, 33, 34, 35, 36, 37, 38, 39, 40, 41, 42, 43, 44, 45, 46, 47, 53, 54, 55, 56, 57, 58, 59, 60] (by decide +kernel) (by decide +kernel)
set_option maxRecDepth 20000 in
theorem gX2_back_X1_startAgain : GoodIn wsX2_back (wsV RX2 142 RX1 yX1_startAgain wsX1_startAgain) := goodIn_app (goodIn_of _ (by decide +kernel)) ggX2_back_X1_startAgain
theorem dX2_back_0 : decode cX2_back 0 = .ok (.aload_n 0, 1) := by decide +kernel
theorem dX2_back_1 : decode cX2_back 1 = .ok (.iload_n 1, 1) := by decide +kernel
theorem dX2_back_2 : decode cX2_back 2 = .ok (.invokevirtual 51, 3) := by decide +kernel
theorem dX2_back_5 : decode cX2_back 5 = .ok (.invokevirtual 142, 3) := by decide +kernel
theorem dX2_back_8 : decode cX2_back 8 = .ok (.return_, 1) := by decide +kernel
set_option maxRecDepth 20000 in
theorem ggX2_tally_X2_tallied : GoodIn wsX2_tally wsX2_tallied := goodIn_r _ [8, 9, 10, 11, 12, 13, 14, 15, 16, 17, 18] (by decide +kernel) (by decide +kernel)
set_option maxRecDepth 20000 in
theorem gX2_tally_X2_tallied : GoodIn wsX2_tally (va_wsS RX2 150 yX2_tallied wsX2_tallied) := goodIn_app (goodIn_of _ (by decide +kernel)) ggX2_tally_X2_tallied
theorem dX2_tally_0 : decode cX2_tally 0 = .ok (.iload_n 2, 1) := by decide +kernel
theorem dX2_tally_1 : decode cX2_tally 1 = .ok (.ifCond .lt 8, 3) := by decide +kernel
theorem dX2_tally_4 : decode cX2_tally 4 = .ok (.iload_n 2, 1) := by decide +kernel
theorem dX2_tally_5 : decode cX2_tally 5 = .ok (.iconst 4, 1) := by decide +kernel
theorem dX2_tally_6 : decode cX2_tally 6 = .ok (.if_icmp .le 13, 3) := by decide +kernel
theorem dX2_tally_9 : decode cX2_tally 9 = .ok (.new 32, 3) := by decide +kernel
theorem dX2_tally_12 : decode cX2_tally 12 = .ok (.dup, 1) := by decide +kernel
theorem dX2_tally_13 : decode cX2_tally 13 = .ok (.ldc 145, 2) := by decide +kernel
theorem dX2_tally_15 : decode cX2_tally 15 = .ok (.invokespecial 36, 3) := by decide +kernel
theorem dX2_tally_18 : decode cX2_tally 18 = .ok (.athrow, 1) := by decide +kernel
theorem dX2_tally_19 : decode cX2_tally 19 = .ok (.iload_n 1, 1) := by decide +kernel
theorem dX2_tally_20 : decode cX2_tally 20 = .ok (.ifCond .eq 21, 3) := by decide +kernel
theorem dX2_tally_23 : decode cX2_tally 23 = .ok (.aload_n 0, 1) := by decide +kernel
theorem dX2_tally_24 : decode cX2_tally 24 = .ok (.iload_n 2, 1) := by decide +kernel
theorem dX2_tally_25 : decode cX2_tally 25 = .ok (.aload_n 0, 1) := by decide +kernel
theorem dX2_tally_26 : decode cX2_tally 26 = .ok (.getfield 147, 3) := by decide +kernel
theorem dX2_tally_29 : decode cX2_tally 29 = .ok (.lload_n 3, 1) := by decide +kernel
theorem dX2_tally_30 : decode cX2_tally 30 = .ok (.invokestatic 150, 3) := by decide +kernel
theorem dX2_tally_33 : decode cX2_tally 33 = .ok (.putfield 147, 3) := by decide +kernel
theorem dX2_tally_36 : decode cX2_tally 36 = .ok (.aload_n 0, 1) := by decide +kernel
theorem dX2_tally_37 : decode cX2_tally 37 = .ok (.getfield 147, 3) := by decide +kernel
theorem dX2_tally_40 : decode cX2_tally 40 = .ok (.lreturn, 1) := by decide +kernel
theorem dX2_tally_41 : decode cX2_tally 41 = .ok (.aload_n 0, 1) := by decide +kernel
theorem dX2_tally_42 : decode cX2_tally 42 = .ok (.iload_n 2, 1) := by decide +kernel
theorem dX2_tally_43 : decode cX2_tally 43 = .ok (.aload_n 0, 1) := by decide +kernel
theorem dX2_tally_44 : decode cX2_tally 44 = .ok (.getfield 154, 3) := by decide +kernel
theorem dX2_tally_47 : decode cX2_tally 47 = .ok (.i2l, 1) := by decide +kernel
theorem dX2_tally_48 : decode cX2_tally 48 = .ok (.lload_n 3, 1) := by decide +kernel
theorem dX2_tally_49 : decode cX2_tally 49 = .ok (.l2i, 1) := by decide +kernel
theorem dX2_tally_50 : decode cX2_tally 50 = .ok (.i2l, 1) := by decide +kernel
theorem dX2_tally_51 : decode cX2_tally 51 = .ok (.invokestatic 150, 3) := by decide +kernel
theorem dX2_tally_54 : decode cX2_tally 54 = .ok (.l2i, 1) := by decide +kernel
theorem dX2_tally_55 : decode cX2_tally 55 = .ok (.putfield 154, 3) := by decide +kernel
theorem dX2_tally_58 : decode cX2_tally 58 = .ok (.aload_n 0, 1) := by decide +kernel
theorem dX2_tally_59 : decode cX2_tally 59 = .ok (.getfield 154, 3) := by decide +kernel
theorem dX2_tally_62 : decode cX2_tally 62 = .ok (.i2l, 1) := by decide +kernel
theorem dX2_tally_63 : decode cX2_tally 63 = .ok (.lreturn, 1) := by decide +kernel
set_option maxRecDepth 20000 in
theorem ggX2_count_X2_countNeedles : GoodIn wsX2_count wsX2_countNeedles := goodIn_r _ [7, 8, 9, 10, 11, 12, 13, 14, 15, 16, 17, 18, 19, 20, 21, 22, 23, 24, 25, 26, 27, 28, 29, 30, 31, 32, 33, 34, 35, 36, 37, 38] (by decide +kernel) (by decide +kernel)
set_option maxRecDepth 20000 in
theorem gX2_count_X2_countNeedles : GoodIn wsX2_count (wsV RX2 157 RX2 yX2_countNeedles wsX2_countNeedles) := goodIn_app (goodIn_of _ (by decide +kernel)) ggX2_count_X2_countNeedles
theorem dX2_count_0 : decode cX2_count 0 = .ok (.iload_n 1, 1) := by decide +kernel
theorem dX2_count_1 : decode cX2_count 1 = .ok (.tableswitch 51 0 4 #[35, 40, 40, 40, 46], 35) := by decide +kernel
theorem dX2_count_36 : decode cX2_count 36 = .ok (.aload_n 0, 1) := by decide +kernel
theorem dX2_count_37 : decode cX2_count 37 = .ok (.getfield 39, 3) := by decide +kernel
theorem dX2_count_40 : decode cX2_count 40 = .ok (.ireturn, 1) := by decide +kernel
theorem dX2_count_41 : decode cX2_count 41 = .ok (.aload_n 0, 1) := by decide +kernel
theorem dX2_count_42 : decode cX2_count 42 = .ok (.iload_n 1, 1) := by decide +kernel
theorem dX2_count_43 : decode cX2_count 43 = .ok (.invokevirtual 157, 3) := by decide +kernel
theorem dX2_count_46 : decode cX2_count 46 = .ok (.ireturn, 1) := by decide +kernel
theorem dX2_count_47 : decode cX2_count 47 = .ok (.aload_n 0, 1) := by decide +kernel
theorem dX2_count_48 : decode cX2_count 48 = .ok (.getfield 62, 3) := by decide +kernel
theorem dX2_count_51 : decode cX2_count 51 = .ok (.ireturn, 1) := by decide +kernel
theorem dX2_count_52 : decode cX2_count 52 = .ok (.iconst (-1), 1) := by decide +kernel
theorem dX2_count_53 : decode cX2_count 53 = .ok (.ireturn, 1) := by decide +kernel
theorem dX2_needleAt_0 : decode cX2_needleAt 0 = .ok (.iload_n 1, 1) := by decide +kernel
theorem dX2_needleAt_1 : decode cX2_needleAt 1 = .ok (.ifCond .lt 12, 3) := by decide +kernel
theorem dX2_needleAt_4 : decode cX2_needleAt 4 = .ok (.iload_n 1, 1) := by decide +kernel
theorem dX2_needleAt_5 : decode cX2_needleAt 5 = .ok (.aload_n 0, 1) := by decide +kernel
theorem dX2_needleAt_6 : decode cX2_needleAt 6 = .ok (.getfield 11, 3) := by decide +kernel
theorem dX2_needleAt_9 : decode cX2_needleAt 9 = .ok (.arraylength, 1) := by decide +kernel
theorem dX2_needleAt_10 : decode cX2_needleAt 10 = .ok (.if_icmp .lt 7, 3) := by decide +kernel
theorem dX2_needleAt_13 : decode cX2_needleAt 13 = .ok (.aconst_null, 1) := by decide +kernel
theorem dX2_needleAt_14 : decode cX2_needleAt 14 = .ok (.goto 9, 3) := by decide +kernel
theorem dX2_needleAt_17 : decode cX2_needleAt 17 = .ok (.aload_n 0, 1) := by decide +kernel
theorem dX2_needleAt_18 : decode cX2_needleAt 18 = .ok (.getfield 11, 3) := by decide +kernel
theorem dX2_needleAt_21 : decode cX2_needleAt 21 = .ok (.iload_n 1, 1) := by decide +kernel
theorem dX2_needleAt_22 : decode cX2_needleAt 22 = .ok (.aaload, 1) := by decide +kernel
theorem dX2_needleAt_23 : decode cX2_needleAt 23 = .ok (.astore_n 2, 1) := by decide +kernel
theorem dX2_needleAt_24 : decode cX2_needleAt 24 = .ok (.aload_n 2, 1) := by decide +kernel
theorem dX2_needleAt_25 : decode cX2_needleAt 25 = .ok (.ifnonnull 13, 3) := by decide +kernel
theorem dX2_needleAt_28 : decode cX2_needleAt 28 = .ok (.new 161, 3) := by decide +kernel
theorem dX2_needleAt_31 : decode cX2_needleAt 31 = .ok (.dup, 1) := by decide +kernel
theorem dX2_needleAt_32 : decode cX2_needleAt 32 = .ok (.ldc 163, 2) := by decide +kernel
theorem dX2_needleAt_34 : decode cX2_needleAt 34 = .ok (.invokespecial 165, 3) := by decide +kernel
theorem dX2_needleAt_37 : decode cX2_needleAt 37 = .ok (.athrow, 1) := by decide +kernel
theorem dX2_needleAt_38 : decode cX2_needleAt 38 = .ok (.aload_n 2, 1) := by decide +kernel
theorem dX2_needleAt_39 : decode cX2_needleAt 39 = .ok (.areturn, 1) := by decide +kernel
set_option maxRecDepth 20000 in
theorem ggX2_numberFrom_X0_trimmed : GoodIn wsX2_numberFrom wsX0_trimmed := goodIn_r _ [7, 8] (by decide +kernel) (by decide +kernel)
set_option maxRecDepth 20000 in
theorem gX2_numberFrom_X0_trimmed : GoodIn wsX2_numberFrom (wsV RX2 166 RX0 yX0_trimmed wsX0_trimmed) := goodIn_app (goodIn_of _ (by decide +kernel)) ggX2_numberFrom_X0_trimmed
set_option maxRecDepth 20000 in
theorem ggX2_numberFrom_X0_isNumber : GoodIn wsX2_numberFrom wsX0_isNumber := goodIn_r _ [12, 13, 14, 15, 16, 6, 17, 18, 19] (by decide +kernel) (by decide +kernel)
set_option maxRecDepth 20000 in
theorem gX2_numberFrom_X0_isNumber : GoodIn wsX2_numberFrom (wsV RX2 169 RX0 yX0_isNumber wsX0_isNumber) := goodIn_app (goodIn_of _ (by decide +kernel)) ggX2_numberFrom_X0_isNumber
theorem dX2_numberFrom_0 : decode cX2_numberFrom 0 = .ok (.aload_n 0, 1) := by decide +kernel
theorem dX2_numberFrom_1 : decode cX2_numberFrom 1 = .ok (.lload_n 1, 1) := by decide +kernel
theorem dX2_numberFrom_2 : decode cX2_numberFrom 2 = .ok (.invokevirtual 166, 3) := by decide +kernel
theorem dX2_numberFrom_5 : decode cX2_numberFrom 5 = .ok (.lstore_n 3, 1) := by decide +kernel
theorem dX2_numberFrom_6 : decode cX2_numberFrom 6 = .ok (.aload_n 0, 1) := by decide +kernel
theorem dX2_numberFrom_7 : decode cX2_numberFrom 7 = .ok (.lload_n 3, 1) := by decide +kernel
theorem dX2_numberFrom_8 : decode cX2_numberFrom 8 = .ok (.invokevirtual 169, 3) := by decide +kernel
theorem dX2_numberFrom_11 : decode cX2_numberFrom 11 = .ok (.ifCond .ne 13, 3) := by decide +kernel
theorem dX2_numberFrom_14 : decode cX2_numberFrom 14 = .ok (.new 32, 3) := by decide +kernel
theorem dX2_numberFrom_17 : decode cX2_numberFrom 17 = .ok (.dup, 1) := by decide +kernel
theorem dX2_numberFrom_18 : decode cX2_numberFrom 18 = .ok (.ldc 173, 2) := by decide +kernel
theorem dX2_numberFrom_20 : decode cX2_numberFrom 20 = .ok (.invokespecial 36, 3) := by decide +kernel
theorem dX2_numberFrom_23 : decode cX2_numberFrom 23 = .ok (.athrow, 1) := by decide +kernel
theorem dX2_numberFrom_24 : decode cX2_numberFrom 24 = .ok (.lload_n 3, 1) := by decide +kernel
theorem dX2_numberFrom_25 : decode cX2_numberFrom 25 = .ok (.lreturn, 1) := by decide +kernel
theorem dX2_tallied_0 : decode cX2_tallied 0 = .ok (.iload_n 0, 1) := by decide +kernel
theorem dX2_tallied_1 : decode cX2_tallied 1 = .ok (.tableswitch 50 0 3 #[31, 33, 39, 45], 31) := by decide +kernel
theorem dX2_tallied_32 : decode cX2_tallied 32 = .ok (.lload_n 3, 1) := by decide +kernel
theorem dX2_tallied_33 : decode cX2_tallied 33 = .ok (.lreturn, 1) := by decide +kernel
theorem dX2_tallied_34 : decode cX2_tallied 34 = .ok (.lload_n 1, 1) := by decide +kernel
theorem dX2_tallied_35 : decode cX2_tallied 35 = .ok (.lload_n 3, 1) := by decide +kernel
theorem dX2_tallied_36 : decode cX2_tallied 36 = .ok (.invokestatic 133, 3) := by decide +kernel
theorem dX2_tallied_39 : decode cX2_tallied 39 = .ok (.lreturn, 1) := by decide +kernel
theorem dX2_tallied_40 : decode cX2_tallied 40 = .ok (.lload_n 1, 1) := by decide +kernel
theorem dX2_tallied_41 : decode cX2_tallied 41 = .ok (.lload_n 3, 1) := by decide +kernel
theorem dX2_tallied_42 : decode cX2_tallied 42 = .ok (.invokestatic 128, 3) := by decide +kernel
theorem dX2_tallied_45 : decode cX2_tallied 45 = .ok (.lreturn, 1) := by decide +kernel
theorem dX2_tallied_46 : decode cX2_tallied 46 = .ok (.lload_n 3, 1) := by decide +kernel
theorem dX2_tallied_47 : decode cX2_tallied 47 = .ok (.invokestatic 175, 3) := by decide +kernel
theorem dX2_tallied_50 : decode cX2_tallied 50 = .ok (.lreturn, 1) := by decide +kernel
theorem dX2_tallied_51 : decode cX2_tallied 51 = .ok (.lload_n 1, 1) := by decide +kernel
theorem dX2_tallied_52 : decode cX2_tallied 52 = .ok (.invokestatic 175, 3) := by decide +kernel
theorem dX2_tallied_55 : decode cX2_tallied 55 = .ok (.lload_n 3, 1) := by decide +kernel
theorem dX2_tallied_56 : decode cX2_tallied 56 = .ok (.invokestatic 175, 3) := by decide +kernel
theorem dX2_tallied_59 : decode cX2_tallied 59 = .ok (.lsub, 1) := by decide +kernel
theorem dX2_tallied_60 : decode cX2_tallied 60 = .ok (.lreturn, 1) := by decide +kernel
set_option maxRecDepth 20000 in
theorem ggX2_countNeedles_X1_isCounted : GoodIn wsX2_countNeedles wsX1_isCounted := goodIn_r _ [6, 7, 8, 9, 10, 11, 12, 13, 14, 15, 16, 17, 18, 24, 25, 26, 27, 28, 29, 30, 31] (by decide +kernel) (by decide +kernel)
set_option maxRecDepth 20000 in
theorem gX2_countNeedles_X1_isCounted : GoodIn wsX2_countNeedles (wsV RX2 178 RX1 yX1_isCounted wsX1_isCounted) := goodIn_app (goodIn_of _ (by decide +kernel)) ggX2_countNeedles_X1_isCounted
theorem dX2_countNeedles_0 : decode cX2_countNeedles 0 = .ok (.iconst 0, 1) := by decide +kernel
theorem dX2_countNeedles_1 : decode cX2_countNeedles 1 = .ok (.istore_n 2, 1) := by decide +kernel
theorem dX2_countNeedles_2 : decode cX2_countNeedles 2 = .ok (.aload_n 0, 1) := by decide +kernel
theorem dX2_countNeedles_3 : decode cX2_countNeedles 3 = .ok (.getfield 11, 3) := by decide +kernel
theorem dX2_countNeedles_6 : decode cX2_countNeedles 6 = .ok (.astore_n 3, 1) := by decide +kernel
theorem dX2_countNeedles_7 : decode cX2_countNeedles 7 = .ok (.aload_n 3, 1) := by decide +kernel
theorem dX2_countNeedles_8 : decode cX2_countNeedles 8 = .ok (.arraylength, 1) := by decide +kernel
theorem dX2_countNeedles_9 : decode cX2_countNeedles 9 = .ok (.istore 4, 2) := by decide +kernel
theorem dX2_countNeedles_11 : decode cX2_countNeedles 11 = .ok (.iconst 0, 1) := by decide +kernel
theorem dX2_countNeedles_12 : decode cX2_countNeedles 12 = .ok (.istore 5, 2) := by decide +kernel
theorem dX2_countNeedles_14 : decode cX2_countNeedles 14 = .ok (.iload 5, 2) := by decide +kernel
theorem dX2_countNeedles_16 : decode cX2_countNeedles 16 = .ok (.iload 4, 2) := by decide +kernel
theorem dX2_countNeedles_18 : decode cX2_countNeedles 18 = .ok (.if_icmp .ge 32, 3) := by decide +kernel
theorem dX2_countNeedles_21 : decode cX2_countNeedles 21 = .ok (.aload_n 3, 1) := by decide +kernel
theorem dX2_countNeedles_22 : decode cX2_countNeedles 22 = .ok (.iload 5, 2) := by decide +kernel
theorem dX2_countNeedles_24 : decode cX2_countNeedles 24 = .ok (.aaload, 1) := by decide +kernel
theorem dX2_countNeedles_25 : decode cX2_countNeedles 25 = .ok (.astore 6, 2) := by decide +kernel
theorem dX2_countNeedles_27 : decode cX2_countNeedles 27 = .ok (.aload 6, 2) := by decide +kernel
theorem dX2_countNeedles_29 : decode cX2_countNeedles 29 = .ok (.ifnull 15, 3) := by decide +kernel
theorem dX2_countNeedles_32 : decode cX2_countNeedles 32 = .ok (.aload 6, 2) := by decide +kernel
theorem dX2_countNeedles_34 : decode cX2_countNeedles 34 = .ok (.iload_n 1, 1) := by decide +kernel
theorem dX2_countNeedles_35 : decode cX2_countNeedles 35 = .ok (.invokevirtual 178, 3) := by decide +kernel
theorem dX2_countNeedles_38 : decode cX2_countNeedles 38 = .ok (.ifCond .eq 6, 3) := by decide +kernel
theorem dX2_countNeedles_41 : decode cX2_countNeedles 41 = .ok (.iinc 2 1, 3) := by decide +kernel
theorem dX2_countNeedles_44 : decode cX2_countNeedles 44 = .ok (.iinc 5 1, 3) := by decide +kernel
theorem dX2_countNeedles_47 : decode cX2_countNeedles 47 = .ok (.goto (-33), 3) := by decide +kernel
theorem dX2_countNeedles_50 : decode cX2_countNeedles 50 = .ok (.iload_n 2, 1) := by decide +kernel
theorem dX2_countNeedles_51 : decode cX2_countNeedles 51 = .ok (.ireturn, 1) := by decide +kernel
theorem dX3_init_0 : decode cX3_init 0 = .ok (.aload_n 0, 1) := by decide +kernel
theorem dX3_init_1 : decode cX3_init 1 = .ok (.invokespecial 1, 3) := by decide +kernel
theorem dX3_init_4 : decode cX3_init 4 = .ok (.aload_n 0, 1) := by decide +kernel
theorem dX3_init_5 : decode cX3_init 5 = .ok (.bipush 8, 2) := by decide +kernel
theorem dX3_init_7 : decode cX3_init 7 = .ok (.newarray .boolean, 2) := by decide +kernel
theorem dX3_init_9 : decode cX3_init 9 = .ok (.putfield 7, 3) := by decide +kernel
theorem dX3_init_12 : decode cX3_init 12 = .ok (.aload_n 0, 1) := by decide +kernel
theorem dX3_init_13 : decode cX3_init 13 = .ok (.bipush 56, 2) := by decide +kernel
theorem dX3_init_15 : decode cX3_init 15 = .ok (.newarray .long, 2) := by decide +kernel
theorem dX3_init_17 : decode cX3_init 17 = .ok (.putfield 13, 3) := by decide +kernel
theorem dX3_init_20 : decode cX3_init 20 = .ok (.return_, 1) := by decide +kernel
theorem dX3_thrown_0 : decode cX3_thrown 0 = .ok (.aload_n 0, 1) := by decide +kernel
theorem dX3_thrown_1 : decode cX3_thrown 1 = .ok (.getfield 17, 3) := by decide +kernel
theorem dX3_thrown_4 : decode cX3_thrown 4 = .ok (.ireturn, 1) := by decide +kernel
theorem dX3_own_0 : decode cX3_own 0 = .ok (.iload_n 0, 1) := by decide +kernel
theorem dX3_own_1 : decode cX3_own 1 = .ok (.ifCond .eq 7, 3) := by decide +kernel
theorem dX3_own_4 : decode cX3_own 4 = .ok (.lload_n 1, 1) := by decide +kernel
theorem dX3_own_5 : decode cX3_own 5 = .ok (.goto 6, 3) := by decide +kernel
theorem dX3_own_8 : decode cX3_own 8 = .ok (.lload_n 1, 1) := by decide +kernel
theorem dX3_own_9 : decode cX3_own 9 = .ok (.l2i, 1) := by decide +kernel
theorem dX3_own_10 : decode cX3_own 10 = .ok (.i2l, 1) := by decide +kernel
theorem dX3_own_11 : decode cX3_own 11 = .ok (.lreturn, 1) := by decide +kernel
theorem dX3_sizeOf_0 : decode cX3_sizeOf 0 = .ok (.lload_n 1, 1) := by decide +kernel
theorem dX3_sizeOf_1 : decode cX3_sizeOf 1 = .ok (.iload_n 0, 1) := by decide +kernel
theorem dX3_sizeOf_2 : decode cX3_sizeOf 2 = .ok (.ifCond .eq 9, 3) := by decide +kernel
theorem dX3_sizeOf_5 : decode cX3_sizeOf 5 = .ok (.ldc2_w 21, 3) := by decide +kernel
theorem dX3_sizeOf_8 : decode cX3_sizeOf 8 = .ok (.goto 6, 3) := by decide +kernel
theorem dX3_sizeOf_11 : decode cX3_sizeOf 11 = .ok (.ldc2_w 23, 3) := by decide +kernel
theorem dX3_sizeOf_14 : decode cX3_sizeOf 14 = .ok (.land, 1) := by decide +kernel
theorem dX3_sizeOf_15 : decode cX3_sizeOf 15 = .ok (.lreturn, 1) := by decide +kernel
set_option maxRecDepth 20000 in
theorem ggX3_isNumber_X3_sizeOf : GoodIn wsX3_isNumber wsX3_sizeOf := goodIn_r _ [6, 7, 8] (by decide +kernel) (by decide +kernel)
set_option maxRecDepth 20000 in
theorem gX3_isNumber_X3_sizeOf : GoodIn wsX3_isNumber (va_wsS RX3 25 yX3_sizeOf wsX3_sizeOf) := goodIn_app (goodIn_of _ (by decide +kernel)) ggX3_isNumber_X3_sizeOf
theorem dX3_isNumber_0 : decode cX3_isNumber 0 = .ok (.iload_n 0, 1) := by decide +kernel
theorem dX3_isNumber_1 : decode cX3_isNumber 1 = .ok (.lload_n 1, 1) := by decide +kernel
theorem dX3_isNumber_2 : decode cX3_isNumber 2 = .ok (.invokestatic 25, 3) := by decide +kernel
theorem dX3_isNumber_5 : decode cX3_isNumber 5 = .ok (.iload_n 0, 1) := by decide +kernel
theorem dX3_isNumber_6 : decode cX3_isNumber 6 = .ok (.ifCond .eq 9, 3) := by decide +kernel
theorem dX3_isNumber_9 : decode cX3_isNumber 9 = .ok (.ldc2_w 29, 3) := by decide +kernel
theorem dX3_isNumber_12 : decode cX3_isNumber 12 = .ok (.goto 6, 3) := by decide +kernel
theorem dX3_isNumber_15 : decode cX3_isNumber 15 = .ok (.ldc2_w 31, 3) := by decide +kernel
theorem dX3_isNumber_18 : decode cX3_isNumber 18 = .ok (.lcmp, 1) := by decide +kernel
theorem dX3_isNumber_19 : decode cX3_isNumber 19 = .ok (.ifCond .gt 7, 3) := by decide +kernel
theorem dX3_isNumber_22 : decode cX3_isNumber 22 = .ok (.iconst 1, 1) := by decide +kernel
theorem dX3_isNumber_23 : decode cX3_isNumber 23 = .ok (.goto 4, 3) := by decide +kernel
theorem dX3_isNumber_26 : decode cX3_isNumber 26 = .ok (.iconst 0, 1) := by decide +kernel
theorem dX3_isNumber_27 : decode cX3_isNumber 27 = .ok (.ireturn, 1) := by decide +kernel
set_option maxRecDepth 20000 in
theorem ggX3_isEndless_X3_sizeOf : GoodIn wsX3_isEndless wsX3_sizeOf := goodIn_r _ [6, 7, 8] (by decide +kernel) (by decide +kernel)
set_option maxRecDepth 20000 in
theorem gX3_isEndless_X3_sizeOf : GoodIn wsX3_isEndless (va_wsS RX3 25 yX3_sizeOf wsX3_sizeOf) := goodIn_app (goodIn_of _ (by decide +kernel)) ggX3_isEndless_X3_sizeOf
theorem dX3_isEndless_0 : decode cX3_isEndless 0 = .ok (.iload_n 0, 1) := by decide +kernel
theorem dX3_isEndless_1 : decode cX3_isEndless 1 = .ok (.lload_n 1, 1) := by decide +kernel
theorem dX3_isEndless_2 : decode cX3_isEndless 2 = .ok (.invokestatic 25, 3) := by decide +kernel
theorem dX3_isEndless_5 : decode cX3_isEndless 5 = .ok (.iload_n 0, 1) := by decide +kernel
theorem dX3_isEndless_6 : decode cX3_isEndless 6 = .ok (.ifCond .eq 9, 3) := by decide +kernel
theorem dX3_isEndless_9 : decode cX3_isEndless 9 = .ok (.ldc2_w 29, 3) := by decide +kernel
theorem dX3_isEndless_12 : decode cX3_isEndless 12 = .ok (.goto 6, 3) := by decide +kernel
theorem dX3_isEndless_15 : decode cX3_isEndless 15 = .ok (.ldc2_w 31, 3) := by decide +kernel
theorem dX3_isEndless_18 : decode cX3_isEndless 18 = .ok (.lcmp, 1) := by decide +kernel
theorem dX3_isEndless_19 : decode cX3_isEndless 19 = .ok (.ifCond .ne 7, 3) := by decide +kernel
theorem dX3_isEndless_22 : decode cX3_isEndless 22 = .ok (.iconst 1, 1) := by decide +kernel
theorem dX3_isEndless_23 : decode cX3_isEndless 23 = .ok (.goto 4, 3) := by decide +kernel
theorem dX3_isEndless_26 : decode cX3_isEndless 26 = .ok (.iconst 0, 1) := by decide +kernel
theorem dX3_isEndless_27 : decode cX3_isEndless 27 = .ok (.ireturn, 1) := by decide +kernel
set_option maxRecDepth 20000 in
theorem ggX3_isNought_X3_sizeOf : GoodIn wsX3_isNought wsX3_sizeOf := goodIn_r _ [4, 5, 6] (by decide +kernel) (by decide +kernel)
set_option maxRecDepth 20000 in
theorem gX3_isNought_X3_sizeOf : GoodIn wsX3_isNought (va_wsS RX3 25 yX3_sizeOf wsX3_sizeOf) := goodIn_app (goodIn_of _ (by decide +kernel)) ggX3_isNought_X3_sizeOf
theorem dX3_isNought_0 : decode cX3_isNought 0 = .ok (.iload_n 0, 1) := by decide +kernel
theorem dX3_isNought_1 : decode cX3_isNought 1 = .ok (.lload_n 1, 1) := by decide +kernel
theorem dX3_isNought_2 : decode cX3_isNought 2 = .ok (.invokestatic 25, 3) := by decide +kernel
theorem dX3_isNought_5 : decode cX3_isNought 5 = .ok (.lconst 0, 1) := by decide +kernel
theorem dX3_isNought_6 : decode cX3_isNought 6 = .ok (.lcmp, 1) := by decide +kernel
theorem dX3_isNought_7 : decode cX3_isNought 7 = .ok (.ifCond .ne 7, 3) := by decide +kernel
theorem dX3_isNought_10 : decode cX3_isNought 10 = .ok (.iconst 1, 1) := by decide +kernel
theorem dX3_isNought_11 : decode cX3_isNought 11 = .ok (.goto 4, 3) := by decide +kernel
theorem dX3_isNought_14 : decode cX3_isNought 14 = .ok (.iconst 0, 1) := by decide +kernel
theorem dX3_isNought_15 : decode cX3_isNought 15 = .ok (.ireturn, 1) := by decide +kernel
set_option maxRecDepth 20000 in
theorem ggX3_rank_X3_sizeOf : GoodIn wsX3_rank wsX3_sizeOf := goodIn_r _ [5, 6, 7] (by decide +kernel) (by decide +kernel)
set_option maxRecDepth 20000 in
theorem gX3_rank_X3_sizeOf : GoodIn wsX3_rank (va_wsS RX3 25 yX3_sizeOf wsX3_sizeOf) := goodIn_app (goodIn_of _ (by decide +kernel)) ggX3_rank_X3_sizeOf
theorem dX3_rank_0 : decode cX3_rank 0 = .ok (.lload_n 1, 1) := by decide +kernel
theorem dX3_rank_1 : decode cX3_rank 1 = .ok (.lconst 0, 1) := by decide +kernel
theorem dX3_rank_2 : decode cX3_rank 2 = .ok (.lcmp, 1) := by decide +kernel
theorem dX3_rank_3 : decode cX3_rank 3 = .ok (.ifCond .ge 15, 3) := by decide +kernel
theorem dX3_rank_6 : decode cX3_rank 6 = .ok (.ldc2_w 33, 3) := by decide +kernel
theorem dX3_rank_9 : decode cX3_rank 9 = .ok (.iload_n 0, 1) := by decide +kernel
theorem dX3_rank_10 : decode cX3_rank 10 = .ok (.lload_n 1, 1) := by decide +kernel
theorem dX3_rank_11 : decode cX3_rank 11 = .ok (.invokestatic 25, 3) := by decide +kernel
theorem dX3_rank_14 : decode cX3_rank 14 = .ok (.lsub, 1) := by decide +kernel
theorem dX3_rank_15 : decode cX3_rank 15 = .ok (.goto 4, 3) := by decide +kernel
theorem dX3_rank_18 : decode cX3_rank 18 = .ok (.lload_n 1, 1) := by decide +kernel
theorem dX3_rank_19 : decode cX3_rank 19 = .ok (.lreturn, 1) := by decide +kernel
theorem dX3_sided_0 : decode cX3_sided 0 = .ok (.iload_n 3, 1) := by decide +kernel
theorem dX3_sided_1 : decode cX3_sided 1 = .ok (.ifCond .ne 5, 3) := by decide +kernel
theorem dX3_sided_4 : decode cX3_sided 4 = .ok (.lload_n 1, 1) := by decide +kernel
theorem dX3_sided_5 : decode cX3_sided 5 = .ok (.lreturn, 1) := by decide +kernel
theorem dX3_sided_6 : decode cX3_sided 6 = .ok (.iload_n 0, 1) := by decide +kernel
theorem dX3_sided_7 : decode cX3_sided 7 = .ok (.ifCond .eq 11, 3) := by decide +kernel
theorem dX3_sided_10 : decode cX3_sided 10 = .ok (.lload_n 1, 1) := by decide +kernel
theorem dX3_sided_11 : decode cX3_sided 11 = .ok (.ldc2_w 35, 3) := by decide +kernel
theorem dX3_sided_14 : decode cX3_sided 14 = .ok (.lor, 1) := by decide +kernel
theorem dX3_sided_15 : decode cX3_sided 15 = .ok (.goto 8, 3) := by decide +kernel
theorem dX3_sided_18 : decode cX3_sided 18 = .ok (.lload_n 1, 1) := by decide +kernel
theorem dX3_sided_19 : decode cX3_sided 19 = .ok (.ldc2_w 37, 3) := by decide +kernel
theorem dX3_sided_22 : decode cX3_sided 22 = .ok (.lsub, 1) := by decide +kernel
theorem dX3_sided_23 : decode cX3_sided 23 = .ok (.lreturn, 1) := by decide +kernel
set_option maxRecDepth 20000 in
theorem ggX3_wideBits_Jxe99ae_doubleToLongBits_ccdee : GoodIn wsX3_wideBits wsJxe99ae_doubleToLongBits_ccdee := goodIn_r _ [8, 9, 10, 11, 12, 13, 14, 15, 7, 16] (by decide +kernel) (by decide +kernel)
set_option maxRecDepth 20000 in
theorem gX3_wideBits_Jxe99ae_doubleToLongBits_ccdee : GoodIn wsX3_wideBits (va_wsS RX3 45 yJxe99ae_doubleToLongBits_ccdee wsJxe99ae_doubleToLongBits_ccdee) := goodIn_app (goodIn_of _ (by decide +kernel)) ggX3_wideBits_Jxe99ae_doubleToLongBits_ccdee
theorem dX3_wideBits_0 : decode cX3_wideBits 0 = .ok (.iload_n 0, 1) := by decide +kernel
theorem dX3_wideBits_1 : decode cX3_wideBits 1 = .ok (.ifCond .eq 7, 3) := by decide +kernel
theorem dX3_wideBits_4 : decode cX3_wideBits 4 = .ok (.lload_n 1, 1) := by decide +kernel
theorem dX3_wideBits_5 : decode cX3_wideBits 5 = .ok (.goto 12, 3) := by decide +kernel
theorem dX3_wideBits_8 : decode cX3_wideBits 8 = .ok (.lload_n 1, 1) := by decide +kernel
theorem dX3_wideBits_9 : decode cX3_wideBits 9 = .ok (.l2i, 1) := by decide +kernel
theorem dX3_wideBits_10 : decode cX3_wideBits 10 = .ok (.invokestatic 39, 3) := by decide +kernel
theorem dX3_wideBits_13 : decode cX3_wideBits 13 = .ok (.f2d, 1) := by decide +kernel
theorem dX3_wideBits_14 : decode cX3_wideBits 14 = .ok (.invokestatic 45, 3) := by decide +kernel
theorem dX3_wideBits_17 : decode cX3_wideBits 17 = .ok (.lreturn, 1) := by decide +kernel
set_option maxRecDepth 20000 in
theorem ggX3_sum_Jxe99ae_doubleToLongBits_ccdee : GoodIn wsX3_sum wsJxe99ae_doubleToLongBits_ccdee := goodIn_r _ [12, 13, 14, 15, 4, 16, 17, 18, 11, 19] (by decide +kernel) (by decide +kernel)
end
section
set_option maxRecDepth 20000 in
theorem gX3_sum_Jxe99ae_doubleToLongBits_ccdee : GoodIn wsX3_sum (va_wsS RX3 45 yJxe99ae_doubleToLongBits_ccdee wsJxe99ae_doubleToLongBits_ccdee) := goodIn_app (goodIn_of _ (by decide +kernel)) ggX3_sum_Jxe99ae_doubleToLongBits_ccdee
set_option maxRecDepth 20000 in
theorem ggX3_sum_Jxf58ca_floatToIntBits_5c35a : GoodIn wsX3_sum wsJxf58ca_floatToIntBits_5c35a := goodIn_r _ [23, 24, 25, 26, 8, 27, 28, 29, 22, 30] (by decide +kernel) (by decide +kernel)
set_option maxRecDepth 20000 in
theorem gX3_sum_Jxf58ca_floatToIntBits_5c35a : GoodIn wsX3_sum (va_wsS RX3 55 yJxf58ca_floatToIntBits_5c35a wsJxf58ca_floatToIntBits_5c35a) := goodIn_app (goodIn_of _ (by decide +kernel)) ggX3_sum_Jxf58ca_floatToIntBits_5c35a
theorem dX3_sum_0 : decode cX3_sum 0 = .ok (.iload_n 0, 1) := by decide +kernel
theorem dX3_sum_1 : decode cX3_sum 1 = .ok (.ifCond .eq 16, 3) := by decide +kernel
theorem dX3_sum_4 : decode cX3_sum 4 = .ok (.lload_n 1, 1) := by decide +kernel
theorem dX3_sum_5 : decode cX3_sum 5 = .ok (.invokestatic 51, 3) := by decide +kernel
theorem dX3_sum_8 : decode cX3_sum 8 = .ok (.lload_n 3, 1) := by decide +kernel
theorem dX3_sum_9 : decode cX3_sum 9 = .ok (.invokestatic 51, 3) := by decide +kernel
theorem dX3_sum_12 : decode cX3_sum 12 = .ok (.dadd, 1) := by decide +kernel
theorem dX3_sum_13 : decode cX3_sum 13 = .ok (.invokestatic 45, 3) := by decide +kernel
theorem dX3_sum_16 : decode cX3_sum 16 = .ok (.lreturn, 1) := by decide +kernel
theorem dX3_sum_17 : decode cX3_sum 17 = .ok (.lload_n 1, 1) := by decide +kernel
theorem dX3_sum_18 : decode cX3_sum 18 = .ok (.l2i, 1) := by decide +kernel
theorem dX3_sum_19 : decode cX3_sum 19 = .ok (.invokestatic 39, 3) := by decide +kernel
theorem dX3_sum_22 : decode cX3_sum 22 = .ok (.lload_n 3, 1) := by decide +kernel
theorem dX3_sum_23 : decode cX3_sum 23 = .ok (.l2i, 1) := by decide +kernel
theorem dX3_sum_24 : decode cX3_sum 24 = .ok (.invokestatic 39, 3) := by decide +kernel
theorem dX3_sum_27 : decode cX3_sum 27 = .ok (.fadd, 1) := by decide +kernel
theorem dX3_sum_28 : decode cX3_sum 28 = .ok (.invokestatic 55, 3) := by decide +kernel
theorem dX3_sum_31 : decode cX3_sum 31 = .ok (.i2l, 1) := by decide +kernel
theorem dX3_sum_32 : decode cX3_sum 32 = .ok (.lreturn, 1) := by decide +kernel
set_option maxRecDepth 20000 in
theorem ggX3_turned_X3_sizeOf : GoodIn wsX3_turned wsX3_sizeOf := goodIn_r _ [4, 5, 6] (by decide +kernel) (by decide +kernel)
set_option maxRecDepth 20000 in
theorem gX3_turned_X3_sizeOf : GoodIn wsX3_turned (va_wsS RX3 25 yX3_sizeOf wsX3_sizeOf) := goodIn_app (goodIn_of _ (by decide +kernel)) ggX3_turned_X3_sizeOf
set_option maxRecDepth 20000 in
theorem ggX3_turned_X3_sided : GoodIn wsX3_turned wsX3_sided := goodIn_r _ [9, 10, 11] (by decide +kernel) (by decide +kernel)
set_option maxRecDepth 20000 in
theorem gX3_turned_X3_sided : GoodIn wsX3_turned (va_wsS RX3 59 yX3_sided wsX3_sided) := goodIn_app (goodIn_of _ (by decide +kernel)) ggX3_turned_X3_sided
theorem dX3_turned_0 : decode cX3_turned 0 = .ok (.iload_n 0, 1) := by decide +kernel
theorem dX3_turned_1 : decode cX3_turned 1 = .ok (.iload_n 0, 1) := by decide +kernel
theorem dX3_turned_2 : decode cX3_turned 2 = .ok (.lload_n 1, 1) := by decide +kernel
theorem dX3_turned_3 : decode cX3_turned 3 = .ok (.invokestatic 25, 3) := by decide +kernel
theorem dX3_turned_6 : decode cX3_turned 6 = .ok (.lload_n 1, 1) := by decide +kernel
theorem dX3_turned_7 : decode cX3_turned 7 = .ok (.lconst 0, 1) := by decide +kernel
theorem dX3_turned_8 : decode cX3_turned 8 = .ok (.lcmp, 1) := by decide +kernel
theorem dX3_turned_9 : decode cX3_turned 9 = .ok (.ifCond .lt 7, 3) := by decide +kernel
theorem dX3_turned_12 : decode cX3_turned 12 = .ok (.iconst 1, 1) := by decide +kernel
theorem dX3_turned_13 : decode cX3_turned 13 = .ok (.goto 4, 3) := by decide +kernel
theorem dX3_turned_16 : decode cX3_turned 16 = .ok (.iconst 0, 1) := by decide +kernel
theorem dX3_turned_17 : decode cX3_turned 17 = .ok (.invokestatic 59, 3) := by decide +kernel
theorem dX3_turned_20 : decode cX3_turned 20 = .ok (.lreturn, 1) := by decide +kernel
set_option maxRecDepth 20000 in
theorem ggX3_alike_X3_isNought : GoodIn wsX3_alike wsX3_isNought := goodIn_r _ [4, 5, 6, 3, 7, 8, 9] (by decide +kernel) (by decide +kernel)
set_option maxRecDepth 20000 in
theorem gX3_alike_X3_isNought : GoodIn wsX3_alike (va_wsS RX3 63 yX3_isNought wsX3_isNought) := goodIn_app (goodIn_of _ (by decide +kernel)) ggX3_alike_X3_isNought
theorem dX3_alike_0 : decode cX3_alike 0 = .ok (.lload_n 1, 1) := by decide +kernel
theorem dX3_alike_1 : decode cX3_alike 1 = .ok (.lload_n 3, 1) := by decide +kernel
theorem dX3_alike_2 : decode cX3_alike 2 = .ok (.lcmp, 1) := by decide +kernel
theorem dX3_alike_3 : decode cX3_alike 3 = .ok (.ifCond .eq 19, 3) := by decide +kernel
theorem dX3_alike_6 : decode cX3_alike 6 = .ok (.iload_n 0, 1) := by decide +kernel
theorem dX3_alike_7 : decode cX3_alike 7 = .ok (.lload_n 1, 1) := by decide +kernel
theorem dX3_alike_8 : decode cX3_alike 8 = .ok (.invokestatic 63, 3) := by decide +kernel
theorem dX3_alike_11 : decode cX3_alike 11 = .ok (.ifCond .eq 15, 3) := by decide +kernel
theorem dX3_alike_14 : decode cX3_alike 14 = .ok (.iload_n 0, 1) := by decide +kernel
theorem dX3_alike_15 : decode cX3_alike 15 = .ok (.lload_n 3, 1) := by decide +kernel
theorem dX3_alike_16 : decode cX3_alike 16 = .ok (.invokestatic 63, 3) := by decide +kernel
theorem dX3_alike_19 : decode cX3_alike 19 = .ok (.ifCond .eq 7, 3) := by decide +kernel
theorem dX3_alike_22 : decode cX3_alike 22 = .ok (.iconst 1, 1) := by decide +kernel
theorem dX3_alike_23 : decode cX3_alike 23 = .ok (.goto 4, 3) := by decide +kernel
theorem dX3_alike_26 : decode cX3_alike 26 = .ok (.iconst 0, 1) := by decide +kernel
theorem dX3_alike_27 : decode cX3_alike 27 = .ok (.ireturn, 1) := by decide +kernel
theorem dX3_isThere_0 : decode cX3_isThere 0 = .ok (.aload_n 0, 1) := by decide +kernel
theorem dX3_isThere_1 : decode cX3_isThere 1 = .ok (.iload_n 1, 1) := by decide +kernel
theorem dX3_isThere_2 : decode cX3_isThere 2 = .ok (.ifCond .lt 15, 3) := by decide +kernel
theorem dX3_isThere_5 : decode cX3_isThere 5 = .ok (.iload_n 1, 1) := by decide +kernel
theorem dX3_isThere_6 : decode cX3_isThere 6 = .ok (.aload_n 0, 1) := by decide +kernel
theorem dX3_isThere_7 : decode cX3_isThere 7 = .ok (.getfield 67, 3) := by decide +kernel
theorem dX3_isThere_10 : decode cX3_isThere 10 = .ok (.if_icmp .ge 7, 3) := by decide +kernel
theorem dX3_isThere_13 : decode cX3_isThere 13 = .ok (.iconst 0, 1) := by decide +kernel
theorem dX3_isThere_14 : decode cX3_isThere 14 = .ok (.goto 4, 3) := by decide +kernel
theorem dX3_isThere_17 : decode cX3_isThere 17 = .ok (.iconst 1, 1) := by decide +kernel
theorem dX3_isThere_18 : decode cX3_isThere 18 = .ok (.putfield 17, 3) := by decide +kernel
theorem dX3_isThere_21 : decode cX3_isThere 21 = .ok (.aload_n 0, 1) := by decide +kernel
theorem dX3_isThere_22 : decode cX3_isThere 22 = .ok (.getfield 17, 3) := by decide +kernel
theorem dX3_isThere_25 : decode cX3_isThere 25 = .ok (.ifCond .ne 7, 3) := by decide +kernel
theorem dX3_isThere_28 : decode cX3_isThere 28 = .ok (.iconst 1, 1) := by decide +kernel
theorem dX3_isThere_29 : decode cX3_isThere 29 = .ok (.goto 4, 3) := by decide +kernel
theorem dX3_isThere_32 : decode cX3_isThere 32 = .ok (.iconst 0, 1) := by decide +kernel
theorem dX3_isThere_33 : decode cX3_isThere 33 = .ok (.ireturn, 1) := by decide +kernel
set_option maxRecDepth 20000 in
theorem ggX3_may_X3_isThere : GoodIn wsX3_may wsX3_isThere := goodIn_r _ [7, 8, 2, 19, 20, 21, 22, 23, 24, 25] (by decide +kernel) (by decide +kernel)
set_option maxRecDepth 20000 in
theorem gX3_may_X3_isThere : GoodIn wsX3_may (wsV RX3 70 RX3 yX3_isThere wsX3_isThere) := goodIn_app (goodIn_of _ (by decide +kernel)) ggX3_may_X3_isThere
set_option maxRecDepth 20000 in
theorem ggX3_may_X3_isNumber : GoodIn wsX3_may wsX3_isNumber := goodIn_r _ [11, 12, 13, 14, 15, 6, 16, 17, 18] (by decide +kernel) (by decide +kernel)
set_option maxRecDepth 20000 in
theorem gX3_may_X3_isNumber : GoodIn wsX3_may (va_wsS RX3 74 yX3_isNumber wsX3_isNumber) := goodIn_app (goodIn_of _ (by decide +kernel)) ggX3_may_X3_isNumber
theorem dX3_may_0 : decode cX3_may 0 = .ok (.aload_n 0, 1) := by decide +kernel
theorem dX3_may_1 : decode cX3_may 1 = .ok (.iload_n 1, 1) := by decide +kernel
theorem dX3_may_2 : decode cX3_may 2 = .ok (.invokevirtual 70, 3) := by decide +kernel
theorem dX3_may_5 : decode cX3_may 5 = .ok (.ifCond .eq 21, 3) := by decide +kernel
theorem dX3_may_8 : decode cX3_may 8 = .ok (.aload_n 0, 1) := by decide +kernel
theorem dX3_may_9 : decode cX3_may 9 = .ok (.getfield 7, 3) := by decide +kernel
theorem dX3_may_12 : decode cX3_may 12 = .ok (.iload_n 1, 1) := by decide +kernel
theorem dX3_may_13 : decode cX3_may 13 = .ok (.baload, 1) := by decide +kernel
theorem dX3_may_14 : decode cX3_may 14 = .ok (.lload_n 2, 1) := by decide +kernel
theorem dX3_may_15 : decode cX3_may 15 = .ok (.invokestatic 74, 3) := by decide +kernel
theorem dX3_may_18 : decode cX3_may 18 = .ok (.ifCond .ne 8, 3) := by decide +kernel
theorem dX3_may_21 : decode cX3_may 21 = .ok (.aload_n 0, 1) := by decide +kernel
theorem dX3_may_22 : decode cX3_may 22 = .ok (.iconst 2, 1) := by decide +kernel
theorem dX3_may_23 : decode cX3_may 23 = .ok (.putfield 17, 3) := by decide +kernel
theorem dX3_may_26 : decode cX3_may 26 = .ok (.aload_n 0, 1) := by decide +kernel
theorem dX3_may_27 : decode cX3_may 27 = .ok (.getfield 17, 3) := by decide +kernel
theorem dX3_may_30 : decode cX3_may 30 = .ok (.ifCond .ne 7, 3) := by decide +kernel
theorem dX3_may_33 : decode cX3_may 33 = .ok (.iconst 1, 1) := by decide +kernel
theorem dX3_may_34 : decode cX3_may 34 = .ok (.goto 4, 3) := by decide +kernel
theorem dX3_may_37 : decode cX3_may 37 = .ok (.iconst 0, 1) := by decide +kernel
theorem dX3_may_38 : decode cX3_may 38 = .ok (.ireturn, 1) := by decide +kernel
theorem dX3_get_0 : decode cX3_get 0 = .ok (.aload_n 0, 1) := by decide +kernel
theorem dX3_get_1 : decode cX3_get 1 = .ok (.getfield 13, 3) := by decide +kernel
theorem dX3_get_4 : decode cX3_get 4 = .ok (.bipush 7, 2) := by decide +kernel
theorem dX3_get_6 : decode cX3_get 6 = .ok (.iload_n 1, 1) := by decide +kernel
theorem dX3_get_7 : decode cX3_get 7 = .ok (.imul, 1) := by decide +kernel
theorem dX3_get_8 : decode cX3_get 8 = .ok (.iload_n 2, 1) := by decide +kernel
theorem dX3_get_9 : decode cX3_get 9 = .ok (.iadd, 1) := by decide +kernel
theorem dX3_get_10 : decode cX3_get 10 = .ok (.laload, 1) := by decide +kernel
theorem dX3_get_11 : decode cX3_get 11 = .ok (.lreturn, 1) := by decide +kernel
theorem dX3_set_0 : decode cX3_set 0 = .ok (.aload_n 0, 1) := by decide +kernel
theorem dX3_set_1 : decode cX3_set 1 = .ok (.getfield 13, 3) := by decide +kernel
theorem dX3_set_4 : decode cX3_set 4 = .ok (.bipush 7, 2) := by decide +kernel
theorem dX3_set_6 : decode cX3_set 6 = .ok (.iload_n 1, 1) := by decide +kernel
theorem dX3_set_7 : decode cX3_set 7 = .ok (.imul, 1) := by decide +kernel
theorem dX3_set_8 : decode cX3_set 8 = .ok (.iload_n 2, 1) := by decide +kernel
theorem dX3_set_9 : decode cX3_set 9 = .ok (.iadd, 1) := by decide +kernel
theorem dX3_set_10 : decode cX3_set 10 = .ok (.lload_n 3, 1) := by decide +kernel
theorem dX3_set_11 : decode cX3_set 11 = .ok (.lastore, 1) := by decide +kernel
theorem dX3_set_12 : decode cX3_set 12 = .ok (.return_, 1) := by decide +kernel
set_option maxRecDepth 20000 in
theorem ggX3_within_X3_rank : GoodIn wsX3_within wsX3_rank := goodIn_r _ [5, 6, 7, 8, 4, 9, 10, 11] (by decide +kernel) (by decide +kernel)
set_option maxRecDepth 20000 in
theorem gX3_within_X3_rank : GoodIn wsX3_within (va_wsS RX3 77 yX3_rank wsX3_rank) := goodIn_app (goodIn_of _ (by decide +kernel)) ggX3_within_X3_rank
set_option maxRecDepth 20000 in
theorem ggX3_within_X3_get : GoodIn wsX3_within wsX3_get := goodIn_r _ [15, 16, 17, 18, 19, 20, 21, 22, 23] (by decide +kernel) (by decide +kernel)
set_option maxRecDepth 20000 in
theorem gX3_within_X3_get : GoodIn wsX3_within (wsV RX3 80 RX3 yX3_get wsX3_get) := goodIn_app (goodIn_of _ (by decide +kernel)) ggX3_within_X3_get
theorem dX3_within_0 : decode cX3_within 0 = .ok (.aload_n 0, 1) := by decide +kernel
theorem dX3_within_1 : decode cX3_within 1 = .ok (.getfield 7, 3) := by decide +kernel
theorem dX3_within_4 : decode cX3_within 4 = .ok (.iload_n 1, 1) := by decide +kernel
theorem dX3_within_5 : decode cX3_within 5 = .ok (.baload, 1) := by decide +kernel
theorem dX3_within_6 : decode cX3_within 6 = .ok (.istore 4, 2) := by decide +kernel
theorem dX3_within_8 : decode cX3_within 8 = .ok (.iload 4, 2) := by decide +kernel
theorem dX3_within_10 : decode cX3_within 10 = .ok (.lload_n 2, 1) := by decide +kernel
theorem dX3_within_11 : decode cX3_within 11 = .ok (.invokestatic 77, 3) := by decide +kernel
theorem dX3_within_14 : decode cX3_within 14 = .ok (.iload 4, 2) := by decide +kernel
theorem dX3_within_16 : decode cX3_within 16 = .ok (.aload_n 0, 1) := by decide +kernel
theorem dX3_within_17 : decode cX3_within 17 = .ok (.iload_n 1, 1) := by decide +kernel
theorem dX3_within_18 : decode cX3_within 18 = .ok (.iconst 0, 1) := by decide +kernel
theorem dX3_within_19 : decode cX3_within 19 = .ok (.invokevirtual 80, 3) := by decide +kernel
theorem dX3_within_22 : decode cX3_within 22 = .ok (.invokestatic 77, 3) := by decide +kernel
theorem dX3_within_25 : decode cX3_within 25 = .ok (.lcmp, 1) := by decide +kernel
theorem dX3_within_26 : decode cX3_within 26 = .ok (.ifCond .ge 10, 3) := by decide +kernel
theorem dX3_within_29 : decode cX3_within 29 = .ok (.aload_n 0, 1) := by decide +kernel
theorem dX3_within_30 : decode cX3_within 30 = .ok (.iload_n 1, 1) := by decide +kernel
theorem dX3_within_31 : decode cX3_within 31 = .ok (.iconst 0, 1) := by decide +kernel
theorem dX3_within_32 : decode cX3_within 32 = .ok (.invokevirtual 80, 3) := by decide +kernel
theorem dX3_within_35 : decode cX3_within 35 = .ok (.lreturn, 1) := by decide +kernel
theorem dX3_within_36 : decode cX3_within 36 = .ok (.iload 4, 2) := by decide +kernel
theorem dX3_within_38 : decode cX3_within 38 = .ok (.lload_n 2, 1) := by decide +kernel
theorem dX3_within_39 : decode cX3_within 39 = .ok (.invokestatic 77, 3) := by decide +kernel
theorem dX3_within_42 : decode cX3_within 42 = .ok (.iload 4, 2) := by decide +kernel
theorem dX3_within_44 : decode cX3_within 44 = .ok (.aload_n 0, 1) := by decide +kernel
theorem dX3_within_45 : decode cX3_within 45 = .ok (.iload_n 1, 1) := by decide +kernel
theorem dX3_within_46 : decode cX3_within 46 = .ok (.iconst 1, 1) := by decide +kernel
theorem dX3_within_47 : decode cX3_within 47 = .ok (.invokevirtual 80, 3) := by decide +kernel
theorem dX3_within_50 : decode cX3_within 50 = .ok (.invokestatic 77, 3) := by decide +kernel
theorem dX3_within_53 : decode cX3_within 53 = .ok (.lcmp, 1) := by decide +kernel
theorem dX3_within_54 : decode cX3_within 54 = .ok (.ifCond .le 12, 3) := by decide +kernel
theorem dX3_within_57 : decode cX3_within 57 = .ok (.aload_n 0, 1) := by decide +kernel
theorem dX3_within_58 : decode cX3_within 58 = .ok (.iload_n 1, 1) := by decide +kernel
theorem dX3_within_59 : decode cX3_within 59 = .ok (.iconst 1, 1) := by decide +kernel
theorem dX3_within_60 : decode cX3_within 60 = .ok (.invokevirtual 80, 3) := by decide +kernel
theorem dX3_within_63 : decode cX3_within 63 = .ok (.goto 4, 3) := by decide +kernel
theorem dX3_within_66 : decode cX3_within 66 = .ok (.lload_n 2, 1) := by decide +kernel
theorem dX3_within_67 : decode cX3_within 67 = .ok (.lreturn, 1) := by decide +kernel
set_option maxRecDepth 20000 in
theorem ggX3_fresh_X3_within : GoodIn wsX3_fresh wsX3_within := goodIn_r _ [6, 1, 7, 8, 5, 9, 10, 11, 12, 13, 14, 15, 16, 17, 18, 19, 20, 25, 26, 27, 28, 29, 30, 31] (by decide +kernel) (by decide +kernel)
set_option maxRecDepth 20000 in
theorem gX3_fresh_X3_within : GoodIn wsX3_fresh (wsV RX3 84 RX3 yX3_within wsX3_within) := goodIn_app (goodIn_of _ (by decide +kernel)) ggX3_fresh_X3_within
set_option maxRecDepth 20000 in
theorem ggX3_fresh_X3_set : GoodIn wsX3_fresh wsX3_set := goodIn_r _ [24, 20, 25, 26, 27, 28, 29, 30, 31] (by decide +kernel) (by decide +kernel)
set_option maxRecDepth 20000 in
theorem gX3_fresh_X3_set : GoodIn wsX3_fresh (wsV RX3 88 RX3 yX3_set wsX3_set) := goodIn_app (goodIn_of _ (by decide +kernel)) ggX3_fresh_X3_set
set_option maxRecDepth 20000 in
theorem ggX3_fresh_X3_sizeOf : GoodIn wsX3_fresh wsX3_sizeOf := goodIn_r _ [13, 14, 15] (by decide +kernel) (by decide +kernel)
set_option maxRecDepth 20000 in
theorem gX3_fresh_X3_sizeOf : GoodIn wsX3_fresh (va_wsS RX3 25 yX3_sizeOf wsX3_sizeOf) := goodIn_app (goodIn_of _ (by decide +kernel)) ggX3_fresh_X3_sizeOf
theorem dX3_fresh_0 : decode cX3_fresh 0 = .ok (.aload_n 0, 1) := by decide +kernel
theorem dX3_fresh_1 : decode cX3_fresh 1 = .ok (.iload_n 1, 1) := by decide +kernel
theorem dX3_fresh_2 : decode cX3_fresh 2 = .ok (.lconst 0, 1) := by decide +kernel
theorem dX3_fresh_3 : decode cX3_fresh 3 = .ok (.invokevirtual 84, 3) := by decide +kernel
theorem dX3_fresh_6 : decode cX3_fresh 6 = .ok (.lstore_n 2, 1) := by decide +kernel
theorem dX3_fresh_7 : decode cX3_fresh 7 = .ok (.aload_n 0, 1) := by decide +kernel
theorem dX3_fresh_8 : decode cX3_fresh 8 = .ok (.iload_n 1, 1) := by decide +kernel
theorem dX3_fresh_9 : decode cX3_fresh 9 = .ok (.iconst 2, 1) := by decide +kernel
theorem dX3_fresh_10 : decode cX3_fresh 10 = .ok (.lload_n 2, 1) := by decide +kernel
theorem dX3_fresh_11 : decode cX3_fresh 11 = .ok (.invokevirtual 88, 3) := by decide +kernel
theorem dX3_fresh_14 : decode cX3_fresh 14 = .ok (.aload_n 0, 1) := by decide +kernel
theorem dX3_fresh_15 : decode cX3_fresh 15 = .ok (.iload_n 1, 1) := by decide +kernel
theorem dX3_fresh_16 : decode cX3_fresh 16 = .ok (.iconst 4, 1) := by decide +kernel
theorem dX3_fresh_17 : decode cX3_fresh 17 = .ok (.lload_n 2, 1) := by decide +kernel
theorem dX3_fresh_18 : decode cX3_fresh 18 = .ok (.invokevirtual 88, 3) := by decide +kernel
theorem dX3_fresh_21 : decode cX3_fresh 21 = .ok (.aload_n 0, 1) := by decide +kernel
theorem dX3_fresh_22 : decode cX3_fresh 22 = .ok (.iload_n 1, 1) := by decide +kernel
theorem dX3_fresh_23 : decode cX3_fresh 23 = .ok (.iconst 5, 1) := by decide +kernel
theorem dX3_fresh_24 : decode cX3_fresh 24 = .ok (.lload_n 2, 1) := by decide +kernel
theorem dX3_fresh_25 : decode cX3_fresh 25 = .ok (.invokevirtual 88, 3) := by decide +kernel
theorem dX3_fresh_28 : decode cX3_fresh 28 = .ok (.aload_n 0, 1) := by decide +kernel
theorem dX3_fresh_29 : decode cX3_fresh 29 = .ok (.iload_n 1, 1) := by decide +kernel
theorem dX3_fresh_30 : decode cX3_fresh 30 = .ok (.bipush 6, 2) := by decide +kernel
theorem dX3_fresh_32 : decode cX3_fresh 32 = .ok (.aload_n 0, 1) := by decide +kernel
theorem dX3_fresh_33 : decode cX3_fresh 33 = .ok (.getfield 7, 3) := by decide +kernel
theorem dX3_fresh_36 : decode cX3_fresh 36 = .ok (.iload_n 1, 1) := by decide +kernel
theorem dX3_fresh_37 : decode cX3_fresh 37 = .ok (.baload, 1) := by decide +kernel
theorem dX3_fresh_38 : decode cX3_fresh 38 = .ok (.lload_n 2, 1) := by decide +kernel
theorem dX3_fresh_39 : decode cX3_fresh 39 = .ok (.invokestatic 25, 3) := by decide +kernel
theorem dX3_fresh_42 : decode cX3_fresh 42 = .ok (.invokevirtual 88, 3) := by decide +kernel
theorem dX3_fresh_45 : decode cX3_fresh 45 = .ok (.return_, 1) := by decide +kernel
set_option maxRecDepth 20000 in
theorem ggX3_becomes_X3_within : GoodIn wsX3_becomes wsX3_within := goodIn_r _ [7, 1, 8, 9, 6, 10, 11, 12, 13, 14, 15, 16, 17, 18, 19, 20, 21, 26, 27, 28, 29, 30, 31, 32] (by decide +kernel) (by decide +kernel)
set_option maxRecDepth 20000 in
theorem gX3_becomes_X3_within : GoodIn wsX3_becomes (wsV RX3 84 RX3 yX3_within wsX3_within) := goodIn_app (goodIn_of _ (by decide +kernel)) ggX3_becomes_X3_within
set_option maxRecDepth 20000 in
theorem ggX3_becomes_X3_set : GoodIn wsX3_becomes wsX3_set := goodIn_r _ [25, 21, 26, 27, 28, 29, 30, 31, 32] (by decide +kernel) (by decide +kernel)
set_option maxRecDepth 20000 in
theorem gX3_becomes_X3_set : GoodIn wsX3_becomes (wsV RX3 88 RX3 yX3_set wsX3_set) := goodIn_app (goodIn_of _ (by decide +kernel)) ggX3_becomes_X3_set
set_option maxRecDepth 20000 in
theorem ggX3_becomes_X3_rank : GoodIn wsX3_becomes wsX3_rank := goodIn_r _ [10, 11, 12, 13, 6, 14, 15, 16] (by decide +kernel) (by decide +kernel)
set_option maxRecDepth 20000 in
theorem gX3_becomes_X3_rank : GoodIn wsX3_becomes (va_wsS RX3 77 yX3_rank wsX3_rank) := goodIn_app (goodIn_of _ (by decide +kernel)) ggX3_becomes_X3_rank
set_option maxRecDepth 20000 in
theorem ggX3_becomes_X3_get : GoodIn wsX3_becomes wsX3_get := goodIn_r _ [20, 21, 26, 27, 28, 29, 30, 31, 32] (by decide +kernel) (by decide +kernel)
set_option maxRecDepth 20000 in
theorem gX3_becomes_X3_get : GoodIn wsX3_becomes (wsV RX3 80 RX3 yX3_get wsX3_get) := goodIn_app (goodIn_of _ (by decide +kernel)) ggX3_becomes_X3_get
set_option maxRecDepth 20000 in
theorem ggX3_becomes_X3_sizeOf : GoodIn wsX3_becomes wsX3_sizeOf := goodIn_r _ [14, 15, 16] (by decide +kernel) (by decide +kernel)
set_option maxRecDepth 20000 in
theorem gX3_becomes_X3_sizeOf : GoodIn wsX3_becomes (va_wsS RX3 25 yX3_sizeOf wsX3_sizeOf) := goodIn_app (goodIn_of _ (by decide +kernel)) ggX3_becomes_X3_sizeOf
theorem dX3_becomes_0 : decode cX3_becomes 0 = .ok (.aload_n 0, 1) := by decide +kernel
theorem dX3_becomes_1 : decode cX3_becomes 1 = .ok (.getfield 7, 3) := by decide +kernel
theorem dX3_becomes_4 : decode cX3_becomes 4 = .ok (.iload_n 1, 1) := by decide +kernel
theorem dX3_becomes_5 : decode cX3_becomes 5 = .ok (.baload, 1) := by decide +kernel
theorem dX3_becomes_6 : decode cX3_becomes 6 = .ok (.istore 4, 2) := by decide +kernel
theorem dX3_becomes_8 : decode cX3_becomes 8 = .ok (.aload_n 0, 1) := by decide +kernel
theorem dX3_becomes_9 : decode cX3_becomes 9 = .ok (.iload_n 1, 1) := by decide +kernel
theorem dX3_becomes_10 : decode cX3_becomes 10 = .ok (.lload_n 2, 1) := by decide +kernel
theorem dX3_becomes_11 : decode cX3_becomes 11 = .ok (.invokevirtual 84, 3) := by decide +kernel
theorem dX3_becomes_14 : decode cX3_becomes 14 = .ok (.lstore 5, 2) := by decide +kernel
theorem dX3_becomes_16 : decode cX3_becomes 16 = .ok (.aload_n 0, 1) := by decide +kernel
theorem dX3_becomes_17 : decode cX3_becomes 17 = .ok (.iload_n 1, 1) := by decide +kernel
theorem dX3_becomes_18 : decode cX3_becomes 18 = .ok (.iconst 2, 1) := by decide +kernel
theorem dX3_becomes_19 : decode cX3_becomes 19 = .ok (.lload 5, 2) := by decide +kernel
theorem dX3_becomes_21 : decode cX3_becomes 21 = .ok (.invokevirtual 88, 3) := by decide +kernel
theorem dX3_becomes_24 : decode cX3_becomes 24 = .ok (.iload 4, 2) := by decide +kernel
theorem dX3_becomes_26 : decode cX3_becomes 26 = .ok (.lload 5, 2) := by decide +kernel
theorem dX3_becomes_28 : decode cX3_becomes 28 = .ok (.invokestatic 77, 3) := by decide +kernel
theorem dX3_becomes_31 : decode cX3_becomes 31 = .ok (.iload 4, 2) := by decide +kernel
theorem dX3_becomes_33 : decode cX3_becomes 33 = .ok (.aload_n 0, 1) := by decide +kernel
theorem dX3_becomes_34 : decode cX3_becomes 34 = .ok (.iload_n 1, 1) := by decide +kernel
theorem dX3_becomes_35 : decode cX3_becomes 35 = .ok (.iconst 4, 1) := by decide +kernel
theorem dX3_becomes_36 : decode cX3_becomes 36 = .ok (.invokevirtual 80, 3) := by decide +kernel
theorem dX3_becomes_39 : decode cX3_becomes 39 = .ok (.invokestatic 77, 3) := by decide +kernel
theorem dX3_becomes_42 : decode cX3_becomes 42 = .ok (.lcmp, 1) := by decide +kernel
theorem dX3_becomes_43 : decode cX3_becomes 43 = .ok (.ifCond .le 11, 3) := by decide +kernel
theorem dX3_becomes_46 : decode cX3_becomes 46 = .ok (.aload_n 0, 1) := by decide +kernel
theorem dX3_becomes_47 : decode cX3_becomes 47 = .ok (.iload_n 1, 1) := by decide +kernel
theorem dX3_becomes_48 : decode cX3_becomes 48 = .ok (.iconst 4, 1) := by decide +kernel
theorem dX3_becomes_49 : decode cX3_becomes 49 = .ok (.lload 5, 2) := by decide +kernel
theorem dX3_becomes_51 : decode cX3_becomes 51 = .ok (.invokevirtual 88, 3) := by decide +kernel
theorem dX3_becomes_54 : decode cX3_becomes 54 = .ok (.iload 4, 2) := by decide +kernel
theorem dX3_becomes_56 : decode cX3_becomes 56 = .ok (.lload 5, 2) := by decide +kernel
theorem dX3_becomes_58 : decode cX3_becomes 58 = .ok (.invokestatic 77, 3) := by decide +kernel
theorem dX3_becomes_61 : decode cX3_becomes 61 = .ok (.iload 4, 2) := by decide +kernel
theorem dX3_becomes_63 : decode cX3_becomes 63 = .ok (.aload_n 0, 1) := by decide +kernel
theorem dX3_becomes_64 : decode cX3_becomes 64 = .ok (.iload_n 1, 1) := by decide +kernel
theorem dX3_becomes_65 : decode cX3_becomes 65 = .ok (.iconst 5, 1) := by decide +kernel
theorem dX3_becomes_66 : decode cX3_becomes 66 = .ok (.invokevirtual 80, 3) := by decide +kernel
theorem dX3_becomes_69 : decode cX3_becomes 69 = .ok (.invokestatic 77, 3) := by decide +kernel
theorem dX3_becomes_72 : decode cX3_becomes 72 = .ok (.lcmp, 1) := by decide +kernel
theorem dX3_becomes_73 : decode cX3_becomes 73 = .ok (.ifCond .ge 11, 3) := by decide +kernel
theorem dX3_becomes_76 : decode cX3_becomes 76 = .ok (.aload_n 0, 1) := by decide +kernel
theorem dX3_becomes_77 : decode cX3_becomes 77 = .ok (.iload_n 1, 1) := by decide +kernel
theorem dX3_becomes_78 : decode cX3_becomes 78 = .ok (.iconst 5, 1) := by decide +kernel
theorem dX3_becomes_79 : decode cX3_becomes 79 = .ok (.lload 5, 2) := by decide +kernel
theorem dX3_becomes_81 : decode cX3_becomes 81 = .ok (.invokevirtual 88, 3) := by decide +kernel
theorem dX3_becomes_84 : decode cX3_becomes 84 = .ok (.iload 4, 2) := by decide +kernel
theorem dX3_becomes_86 : decode cX3_becomes 86 = .ok (.lload 5, 2) := by decide +kernel
theorem dX3_becomes_88 : decode cX3_becomes 88 = .ok (.invokestatic 25, 3) := by decide +kernel
theorem dX3_becomes_91 : decode cX3_becomes 91 = .ok (.aload_n 0, 1) := by decide +kernel
theorem dX3_becomes_92 : decode cX3_becomes 92 = .ok (.iload_n 1, 1) := by decide +kernel
theorem dX3_becomes_93 : decode cX3_becomes 93 = .ok (.bipush 6, 2) := by decide +kernel
theorem dX3_becomes_95 : decode cX3_becomes 95 = .ok (.invokevirtual 80, 3) := by decide +kernel
theorem dX3_becomes_98 : decode cX3_becomes 98 = .ok (.lcmp, 1) := by decide +kernel
theorem dX3_becomes_99 : decode cX3_becomes 99 = .ok (.ifCond .le 17, 3) := by decide +kernel
theorem dX3_becomes_102 : decode cX3_becomes 102 = .ok (.aload_n 0, 1) := by decide +kernel
theorem dX3_becomes_103 : decode cX3_becomes 103 = .ok (.iload_n 1, 1) := by decide +kernel
theorem dX3_becomes_104 : decode cX3_becomes 104 = .ok (.bipush 6, 2) := by decide +kernel
theorem dX3_becomes_106 : decode cX3_becomes 106 = .ok (.iload 4, 2) := by decide +kernel
theorem dX3_becomes_108 : decode cX3_becomes 108 = .ok (.lload 5, 2) := by decide +kernel
theorem dX3_becomes_110 : decode cX3_becomes 110 = .ok (.invokestatic 25, 3) := by decide +kernel
theorem dX3_becomes_113 : decode cX3_becomes 113 = .ok (.invokevirtual 88, 3) := by decide +kernel
theorem dX3_becomes_116 : decode cX3_becomes 116 = .ok (.aload_n 0, 1) := by decide +kernel
theorem dX3_becomes_117 : decode cX3_becomes 117 = .ok (.dup, 1) := by decide +kernel
theorem dX3_becomes_118 : decode cX3_becomes 118 = .ok (.getfield 92, 3) := by decide +kernel
theorem dX3_becomes_121 : decode cX3_becomes 121 = .ok (.iconst 1, 1) := by decide +kernel
theorem dX3_becomes_122 : decode cX3_becomes 122 = .ok (.iadd, 1) := by decide +kernel
theorem dX3_becomes_123 : decode cX3_becomes 123 = .ok (.putfield 92, 3) := by decide +kernel
theorem dX3_becomes_126 : decode cX3_becomes 126 = .ok (.lload 5, 2) := by decide +kernel
theorem dX3_becomes_128 : decode cX3_becomes 128 = .ok (.lreturn, 1) := by decide +kernel
set_option maxRecDepth 20000 in
theorem ggX3_needle_X3_own : GoodIn wsX3_needle wsX3_own := goodIn_r _ [9] (by decide +kernel) (by decide +kernel)
set_option maxRecDepth 20000 in
theorem gX3_needle_X3_own : GoodIn wsX3_needle (va_wsS RX3 95 yX3_own wsX3_own) := goodIn_app (goodIn_of _ (by decide +kernel)) ggX3_needle_X3_own
set_option maxRecDepth 20000 in
theorem ggX3_needle_X3_isNumber : GoodIn wsX3_needle wsX3_isNumber := goodIn_r _ [12, 4, 5, 13, 14, 8, 15, 16, 17] (by decide +kernel) (by decide +kernel)
set_option maxRecDepth 20000 in
theorem gX3_needle_X3_isNumber : GoodIn wsX3_needle (va_wsS RX3 74 yX3_isNumber wsX3_isNumber) := goodIn_app (goodIn_of _ (by decide +kernel)) ggX3_needle_X3_isNumber
set_option maxRecDepth 20000 in
theorem ggX3_needle_X3_rank : GoodIn wsX3_needle wsX3_rank := goodIn_r _ [20, 21, 13, 14, 8, 15, 16, 17] (by decide +kernel) (by decide +kernel)
set_option maxRecDepth 20000 in
theorem gX3_needle_X3_rank : GoodIn wsX3_needle (va_wsS RX3 77 yX3_rank wsX3_rank) := goodIn_app (goodIn_of _ (by decide +kernel)) ggX3_needle_X3_rank
set_option maxRecDepth 20000 in
theorem ggX3_needle_X3_set : GoodIn wsX3_needle wsX3_set := goodIn_r _ [25, 26, 39, 40, 41, 42, 43, 44, 45] (by decide +kernel) (by decide +kernel)
set_option maxRecDepth 20000 in
theorem gX3_needle_X3_set : GoodIn wsX3_needle (wsV RX3 88 RX3 yX3_set wsX3_set) := goodIn_app (goodIn_of _ (by decide +kernel)) ggX3_needle_X3_set
set_option maxRecDepth 20000 in
theorem ggX3_needle_X3_fresh : GoodIn wsX3_needle wsX3_fresh := goodIn_r _ [30, 3, 31, 32, 33, 8, 34, 18, 19, 20, 21, 13, 14, 15, 16, 17, 35, 36, 37, 38, 26, 22, 23, 24, 25, 39, 40, 41, 42, 43, 44, 45] (by decide +kernel) (by decide +kernel)
set_option maxRecDepth 20000 in
theorem gX3_needle_X3_fresh : GoodIn wsX3_needle (wsV RX3 98 RX3 yX3_fresh wsX3_fresh) := goodIn_app (goodIn_of _ (by decide +kernel)) ggX3_needle_X3_fresh
theorem dX3_needle_0 : decode cX3_needle 0 = .ok (.iload_n 1, 1) := by decide +kernel
theorem dX3_needle_1 : decode cX3_needle 1 = .ok (.lload_n 2, 1) := by decide +kernel
theorem dX3_needle_2 : decode cX3_needle 2 = .ok (.invokestatic 95, 3) := by decide +kernel
theorem dX3_needle_5 : decode cX3_needle 5 = .ok (.lstore 6, 2) := by decide +kernel
theorem dX3_needle_7 : decode cX3_needle 7 = .ok (.iload_n 1, 1) := by decide +kernel
theorem dX3_needle_8 : decode cX3_needle 8 = .ok (.lload 4, 2) := by decide +kernel
theorem dX3_needle_10 : decode cX3_needle 10 = .ok (.invokestatic 95, 3) := by decide +kernel
theorem dX3_needle_13 : decode cX3_needle 13 = .ok (.lstore 8, 2) := by decide +kernel
theorem dX3_needle_15 : decode cX3_needle 15 = .ok (.iload_n 1, 1) := by decide +kernel
theorem dX3_needle_16 : decode cX3_needle 16 = .ok (.lload 6, 2) := by decide +kernel
theorem dX3_needle_18 : decode cX3_needle 18 = .ok (.invokestatic 74, 3) := by decide +kernel
theorem dX3_needle_21 : decode cX3_needle 21 = .ok (.ifCond .eq 32, 3) := by decide +kernel
theorem dX3_needle_24 : decode cX3_needle 24 = .ok (.iload_n 1, 1) := by decide +kernel
theorem dX3_needle_25 : decode cX3_needle 25 = .ok (.lload 8, 2) := by decide +kernel
theorem dX3_needle_27 : decode cX3_needle 27 = .ok (.invokestatic 74, 3) := by decide +kernel
theorem dX3_needle_30 : decode cX3_needle 30 = .ok (.ifCond .eq 23, 3) := by decide +kernel
theorem dX3_needle_33 : decode cX3_needle 33 = .ok (.iload_n 1, 1) := by decide +kernel
theorem dX3_needle_34 : decode cX3_needle 34 = .ok (.lload 6, 2) := by decide +kernel
theorem dX3_needle_36 : decode cX3_needle 36 = .ok (.invokestatic 77, 3) := by decide +kernel
theorem dX3_needle_39 : decode cX3_needle 39 = .ok (.iload_n 1, 1) := by decide +kernel
theorem dX3_needle_40 : decode cX3_needle 40 = .ok (.lload 8, 2) := by decide +kernel
theorem dX3_needle_42 : decode cX3_needle 42 = .ok (.invokestatic 77, 3) := by decide +kernel
theorem dX3_needle_45 : decode cX3_needle 45 = .ok (.lcmp, 1) := by decide +kernel
theorem dX3_needle_46 : decode cX3_needle 46 = .ok (.ifCond .gt 7, 3) := by decide +kernel
theorem dX3_needle_49 : decode cX3_needle 49 = .ok (.iconst 1, 1) := by decide +kernel
theorem dX3_needle_50 : decode cX3_needle 50 = .ok (.goto 4, 3) := by decide +kernel
theorem dX3_needle_53 : decode cX3_needle 53 = .ok (.iconst 0, 1) := by decide +kernel
theorem dX3_needle_54 : decode cX3_needle 54 = .ok (.istore 10, 2) := by decide +kernel
theorem dX3_needle_56 : decode cX3_needle 56 = .ok (.aload_n 0, 1) := by decide +kernel
theorem dX3_needle_57 : decode cX3_needle 57 = .ok (.iload 10, 2) := by decide +kernel
theorem dX3_needle_59 : decode cX3_needle 59 = .ok (.ifCond .ne 7, 3) := by decide +kernel
theorem dX3_needle_62 : decode cX3_needle 62 = .ok (.iconst 1, 1) := by decide +kernel
theorem dX3_needle_63 : decode cX3_needle 63 = .ok (.goto 17, 3) := by decide +kernel
theorem dX3_needle_66 : decode cX3_needle 66 = .ok (.aload_n 0, 1) := by decide +kernel
theorem dX3_needle_67 : decode cX3_needle 67 = .ok (.getfield 67, 3) := by decide +kernel
theorem dX3_needle_70 : decode cX3_needle 70 = .ok (.bipush 8, 2) := by decide +kernel
theorem dX3_needle_72 : decode cX3_needle 72 = .ok (.if_icmp .ne 7, 3) := by decide +kernel
theorem dX3_needle_75 : decode cX3_needle 75 = .ok (.iconst 2, 1) := by decide +kernel
theorem dX3_needle_76 : decode cX3_needle 76 = .ok (.goto 4, 3) := by decide +kernel
theorem dX3_needle_79 : decode cX3_needle 79 = .ok (.iconst 0, 1) := by decide +kernel
theorem dX3_needle_80 : decode cX3_needle 80 = .ok (.putfield 17, 3) := by decide +kernel
theorem dX3_needle_83 : decode cX3_needle 83 = .ok (.aload_n 0, 1) := by decide +kernel
theorem dX3_needle_84 : decode cX3_needle 84 = .ok (.getfield 17, 3) := by decide +kernel
theorem dX3_needle_87 : decode cX3_needle 87 = .ok (.ifCond .le 5, 3) := by decide +kernel
theorem dX3_needle_90 : decode cX3_needle 90 = .ok (.iconst 0, 1) := by decide +kernel
theorem dX3_needle_91 : decode cX3_needle 91 = .ok (.ireturn, 1) := by decide +kernel
theorem dX3_needle_92 : decode cX3_needle 92 = .ok (.aload_n 0, 1) := by decide +kernel
theorem dX3_needle_93 : decode cX3_needle 93 = .ok (.getfield 7, 3) := by decide +kernel
theorem dX3_needle_96 : decode cX3_needle 96 = .ok (.aload_n 0, 1) := by decide +kernel
theorem dX3_needle_97 : decode cX3_needle 97 = .ok (.getfield 67, 3) := by decide +kernel
theorem dX3_needle_100 : decode cX3_needle 100 = .ok (.iload_n 1, 1) := by decide +kernel
theorem dX3_needle_101 : decode cX3_needle 101 = .ok (.bastore, 1) := by decide +kernel
theorem dX3_needle_102 : decode cX3_needle 102 = .ok (.aload_n 0, 1) := by decide +kernel
theorem dX3_needle_103 : decode cX3_needle 103 = .ok (.aload_n 0, 1) := by decide +kernel
theorem dX3_needle_104 : decode cX3_needle 104 = .ok (.getfield 67, 3) := by decide +kernel
theorem dX3_needle_107 : decode cX3_needle 107 = .ok (.iconst 0, 1) := by decide +kernel
theorem dX3_needle_108 : decode cX3_needle 108 = .ok (.lload 6, 2) := by decide +kernel
theorem dX3_needle_110 : decode cX3_needle 110 = .ok (.invokevirtual 88, 3) := by decide +kernel
theorem dX3_needle_113 : decode cX3_needle 113 = .ok (.aload_n 0, 1) := by decide +kernel
theorem dX3_needle_114 : decode cX3_needle 114 = .ok (.aload_n 0, 1) := by decide +kernel
theorem dX3_needle_115 : decode cX3_needle 115 = .ok (.getfield 67, 3) := by decide +kernel
theorem dX3_needle_118 : decode cX3_needle 118 = .ok (.iconst 1, 1) := by decide +kernel
theorem dX3_needle_119 : decode cX3_needle 119 = .ok (.lload 8, 2) := by decide +kernel
theorem dX3_needle_121 : decode cX3_needle 121 = .ok (.invokevirtual 88, 3) := by decide +kernel
theorem dX3_needle_124 : decode cX3_needle 124 = .ok (.aload_n 0, 1) := by decide +kernel
theorem dX3_needle_125 : decode cX3_needle 125 = .ok (.aload_n 0, 1) := by decide +kernel
theorem dX3_needle_126 : decode cX3_needle 126 = .ok (.getfield 67, 3) := by decide +kernel
theorem dX3_needle_129 : decode cX3_needle 129 = .ok (.iconst 3, 1) := by decide +kernel
theorem dX3_needle_130 : decode cX3_needle 130 = .ok (.iload_n 1, 1) := by decide +kernel
theorem dX3_needle_131 : decode cX3_needle 131 = .ok (.ifCond .eq 9, 3) := by decide +kernel
theorem dX3_needle_134 : decode cX3_needle 134 = .ok (.ldc2_w 29, 3) := by decide +kernel
theorem dX3_needle_137 : decode cX3_needle 137 = .ok (.goto 6, 3) := by decide +kernel
theorem dX3_needle_140 : decode cX3_needle 140 = .ok (.ldc2_w 31, 3) := by decide +kernel
theorem dX3_needle_143 : decode cX3_needle 143 = .ok (.invokevirtual 88, 3) := by decide +kernel
theorem dX3_needle_146 : decode cX3_needle 146 = .ok (.aload_n 0, 1) := by decide +kernel
theorem dX3_needle_147 : decode cX3_needle 147 = .ok (.aload_n 0, 1) := by decide +kernel
theorem dX3_needle_148 : decode cX3_needle 148 = .ok (.getfield 67, 3) := by decide +kernel
theorem dX3_needle_151 : decode cX3_needle 151 = .ok (.invokevirtual 98, 3) := by decide +kernel
theorem dX3_needle_154 : decode cX3_needle 154 = .ok (.aload_n 0, 1) := by decide +kernel
theorem dX3_needle_155 : decode cX3_needle 155 = .ok (.dup, 1) := by decide +kernel
theorem dX3_needle_156 : decode cX3_needle 156 = .ok (.getfield 67, 3) := by decide +kernel
theorem dX3_needle_159 : decode cX3_needle 159 = .ok (.iconst 1, 1) := by decide +kernel
theorem dX3_needle_160 : decode cX3_needle 160 = .ok (.iadd, 1) := by decide +kernel
theorem dX3_needle_161 : decode cX3_needle 161 = .ok (.putfield 67, 3) := by decide +kernel
theorem dX3_needle_164 : decode cX3_needle 164 = .ok (.aload_n 0, 1) := by decide +kernel
theorem dX3_needle_165 : decode cX3_needle 165 = .ok (.getfield 67, 3) := by decide +kernel
theorem dX3_needle_168 : decode cX3_needle 168 = .ok (.iconst 1, 1) := by decide +kernel
theorem dX3_needle_169 : decode cX3_needle 169 = .ok (.isub, 1) := by decide +kernel
theorem dX3_needle_170 : decode cX3_needle 170 = .ok (.ireturn, 1) := by decide +kernel
set_option maxRecDepth 20000 in
theorem ggX3_put_X3_may : GoodIn wsX3_put wsX3_may := goodIn_r _ [6, 1, 7, 8, 9, 10, 5, 11, 12, 13, 14, 15, 16, 17, 18, 19, 20, 21, 22, 48, 49, 50, 51, 52, 53, 54] (by decide +kernel) (by decide +kernel)
set_option maxRecDepth 20000 in
theorem gX3_put_X3_may : GoodIn wsX3_put (wsV RX3 102 RX3 yX3_may wsX3_may) := goodIn_app (goodIn_of _ (by decide +kernel)) ggX3_put_X3_may
set_option maxRecDepth 20000 in
theorem ggX3_put_X3_own : GoodIn wsX3_put wsX3_own := goodIn_r _ [25] (by decide +kernel) (by decide +kernel)
set_option maxRecDepth 20000 in
theorem gX3_put_X3_own : GoodIn wsX3_put (va_wsS RX3 95 yX3_own wsX3_own) := goodIn_app (goodIn_of _ (by decide +kernel)) ggX3_put_X3_own
set_option maxRecDepth 20000 in
theorem ggX3_put_X3_becomes : GoodIn wsX3_put wsX3_becomes := goodIn_r _ [29, 1, 30, 31, 32, 33, 5, 34, 35, 36, 37, 38, 18, 19, 20, 21, 22, 39, 40, 41, 42, 43, 44, 45, 46, 47, 48, 49, 50, 51, 52, 53, 54] (by decide +kernel) (by decide +kernel)
set_option maxRecDepth 20000 in
theorem gX3_put_X3_becomes : GoodIn wsX3_put (wsV RX3 106 RX3 yX3_becomes wsX3_becomes) := goodIn_app (goodIn_of _ (by decide +kernel)) ggX3_put_X3_becomes
theorem dX3_put_0 : decode cX3_put 0 = .ok (.aload_n 0, 1) := by decide +kernel
theorem dX3_put_1 : decode cX3_put 1 = .ok (.iload_n 1, 1) := by decide +kernel
theorem dX3_put_2 : decode cX3_put 2 = .ok (.lload_n 2, 1) := by decide +kernel
theorem dX3_put_3 : decode cX3_put 3 = .ok (.invokevirtual 102, 3) := by decide +kernel
theorem dX3_put_6 : decode cX3_put 6 = .ok (.ifCond .eq 21, 3) := by decide +kernel
theorem dX3_put_9 : decode cX3_put 9 = .ok (.aload_n 0, 1) := by decide +kernel
theorem dX3_put_10 : decode cX3_put 10 = .ok (.iload_n 1, 1) := by decide +kernel
theorem dX3_put_11 : decode cX3_put 11 = .ok (.aload_n 0, 1) := by decide +kernel
theorem dX3_put_12 : decode cX3_put 12 = .ok (.getfield 7, 3) := by decide +kernel
theorem dX3_put_15 : decode cX3_put 15 = .ok (.iload_n 1, 1) := by decide +kernel
theorem dX3_put_16 : decode cX3_put 16 = .ok (.baload, 1) := by decide +kernel
theorem dX3_put_17 : decode cX3_put 17 = .ok (.lload_n 2, 1) := by decide +kernel
theorem dX3_put_18 : decode cX3_put 18 = .ok (.invokestatic 95, 3) := by decide +kernel
theorem dX3_put_21 : decode cX3_put 21 = .ok (.invokevirtual 106, 3) := by decide +kernel
theorem dX3_put_24 : decode cX3_put 24 = .ok (.goto 4, 3) := by decide +kernel
theorem dX3_put_27 : decode cX3_put 27 = .ok (.lconst 0, 1) := by decide +kernel
theorem dX3_put_28 : decode cX3_put 28 = .ok (.lreturn, 1) := by decide +kernel
set_option maxRecDepth 20000 in
theorem ggX3_turn_X3_may : GoodIn wsX3_turn wsX3_may := goodIn_r _ [7, 1, 2, 8, 9, 10, 6, 11, 12, 13, 14, 15, 16, 17, 18, 19, 20, 21, 22, 84, 85, 86, 87, 88, 89, 90] (by decide +kernel) (by decide +kernel)
set_option maxRecDepth 20000 in
theorem gX3_turn_X3_may : GoodIn wsX3_turn (wsV RX3 102 RX3 yX3_may wsX3_may) := goodIn_app (goodIn_of _ (by decide +kernel)) ggX3_turn_X3_may
set_option maxRecDepth 20000 in
theorem ggX3_turn_X3_own : GoodIn wsX3_turn wsX3_own := goodIn_r _ [25] (by decide +kernel) (by decide +kernel)
set_option maxRecDepth 20000 in
theorem gX3_turn_X3_own : GoodIn wsX3_turn (va_wsS RX3 95 yX3_own wsX3_own) := goodIn_app (goodIn_of _ (by decide +kernel)) ggX3_turn_X3_own
set_option maxRecDepth 20000 in
theorem ggX3_turn_X3_get : GoodIn wsX3_turn wsX3_get := goodIn_r _ [29, 30, 84, 85, 86, 87, 88, 89, 90] (by decide +kernel) (by decide +kernel)
set_option maxRecDepth 20000 in
theorem gX3_turn_X3_get : GoodIn wsX3_turn (wsV RX3 80 RX3 yX3_get wsX3_get) := goodIn_app (goodIn_of _ (by decide +kernel)) ggX3_turn_X3_get
set_option maxRecDepth 20000 in
theorem ggX3_turn_X3_isEndless : GoodIn wsX3_turn wsX3_isEndless := goodIn_r _ [33, 16, 17, 18, 19, 6, 20, 21, 22] (by decide +kernel) (by decide +kernel)
set_option maxRecDepth 20000 in
theorem gX3_turn_X3_isEndless : GoodIn wsX3_turn (va_wsS RX3 109 yX3_isEndless wsX3_isEndless) := goodIn_app (goodIn_of _ (by decide +kernel)) ggX3_turn_X3_isEndless
set_option maxRecDepth 20000 in
theorem ggX3_turn_X3_sum : GoodIn wsX3_turn wsX3_sum := goodIn_r _ [36, 37, 38, 39, 40, 41, 42, 43, 44, 45, 46, 47, 48, 49, 50, 51, 52, 53, 54, 55, 56, 57, 58, 59, 60, 61, 62, 63, 64, 65, 66] (by decide +kernel) (by decide +kernel)
set_option maxRecDepth 20000 in
theorem gX3_turn_X3_sum : GoodIn wsX3_turn (va_wsS RX3 112 yX3_sum wsX3_sum) := goodIn_app (goodIn_of _ (by decide +kernel)) ggX3_turn_X3_sum
set_option maxRecDepth 20000 in
theorem ggX3_turn_X3_becomes : GoodIn wsX3_turn wsX3_becomes := goodIn_r _ [70, 1, 71, 72, 73, 74, 6, 75, 76, 77, 78, 79, 18, 19, 20, 21, 22, 26, 27, 28, 29, 30, 80, 81, 82, 83, 84, 85, 86, 87, 88, 89, 90] (by decide +kernel) (by decide +kernel)
set_option maxRecDepth 20000 in
theorem gX3_turn_X3_becomes : GoodIn wsX3_turn (wsV RX3 106 RX3 yX3_becomes wsX3_becomes) := goodIn_app (goodIn_of _ (by decide +kernel)) ggX3_turn_X3_becomes
theorem dX3_turn_0 : decode cX3_turn 0 = .ok (.aload_n 0, 1) := by decide +kernel
theorem dX3_turn_1 : decode cX3_turn 1 = .ok (.iload_n 1, 1) := by decide +kernel
theorem dX3_turn_2 : decode cX3_turn 2 = .ok (.lload_n 2, 1) := by decide +kernel
theorem dX3_turn_3 : decode cX3_turn 3 = .ok (.invokevirtual 102, 3) := by decide +kernel
theorem dX3_turn_6 : decode cX3_turn 6 = .ok (.ifCond .ne 5, 3) := by decide +kernel
theorem dX3_turn_9 : decode cX3_turn 9 = .ok (.lconst 0, 1) := by decide +kernel
theorem dX3_turn_10 : decode cX3_turn 10 = .ok (.lreturn, 1) := by decide +kernel
theorem dX3_turn_11 : decode cX3_turn 11 = .ok (.aload_n 0, 1) := by decide +kernel
theorem dX3_turn_12 : decode cX3_turn 12 = .ok (.getfield 7, 3) := by decide +kernel
theorem dX3_turn_15 : decode cX3_turn 15 = .ok (.iload_n 1, 1) := by decide +kernel
theorem dX3_turn_16 : decode cX3_turn 16 = .ok (.baload, 1) := by decide +kernel
theorem dX3_turn_17 : decode cX3_turn 17 = .ok (.istore 4, 2) := by decide +kernel
theorem dX3_turn_19 : decode cX3_turn 19 = .ok (.iload 4, 2) := by decide +kernel
theorem dX3_turn_21 : decode cX3_turn 21 = .ok (.lload_n 2, 1) := by decide +kernel
theorem dX3_turn_22 : decode cX3_turn 22 = .ok (.invokestatic 95, 3) := by decide +kernel
theorem dX3_turn_25 : decode cX3_turn 25 = .ok (.lstore 5, 2) := by decide +kernel
theorem dX3_turn_27 : decode cX3_turn 27 = .ok (.aload_n 0, 1) := by decide +kernel
theorem dX3_turn_28 : decode cX3_turn 28 = .ok (.iload_n 1, 1) := by decide +kernel
theorem dX3_turn_29 : decode cX3_turn 29 = .ok (.iconst 2, 1) := by decide +kernel
theorem dX3_turn_30 : decode cX3_turn 30 = .ok (.invokevirtual 80, 3) := by decide +kernel
theorem dX3_turn_33 : decode cX3_turn 33 = .ok (.lstore 7, 2) := by decide +kernel
theorem dX3_turn_35 : decode cX3_turn 35 = .ok (.iload 4, 2) := by decide +kernel
theorem dX3_turn_37 : decode cX3_turn 37 = .ok (.lload 5, 2) := by decide +kernel
theorem dX3_turn_39 : decode cX3_turn 39 = .ok (.invokestatic 109, 3) := by decide +kernel
theorem dX3_turn_42 : decode cX3_turn 42 = .ok (.ifCond .eq 28, 3) := by decide +kernel
theorem dX3_turn_45 : decode cX3_turn 45 = .ok (.iload 4, 2) := by decide +kernel
theorem dX3_turn_47 : decode cX3_turn 47 = .ok (.lload 7, 2) := by decide +kernel
theorem dX3_turn_49 : decode cX3_turn 49 = .ok (.invokestatic 109, 3) := by decide +kernel
theorem dX3_turn_52 : decode cX3_turn 52 = .ok (.ifCond .eq 18, 3) := by decide +kernel
theorem dX3_turn_55 : decode cX3_turn 55 = .ok (.lload 5, 2) := by decide +kernel
theorem dX3_turn_57 : decode cX3_turn 57 = .ok (.lload 7, 2) := by decide +kernel
theorem dX3_turn_59 : decode cX3_turn 59 = .ok (.lcmp, 1) := by decide +kernel
theorem dX3_turn_60 : decode cX3_turn 60 = .ok (.ifCond .eq 10, 3) := by decide +kernel
theorem dX3_turn_63 : decode cX3_turn 63 = .ok (.aload_n 0, 1) := by decide +kernel
theorem dX3_turn_64 : decode cX3_turn 64 = .ok (.iconst 3, 1) := by decide +kernel
theorem dX3_turn_65 : decode cX3_turn 65 = .ok (.putfield 17, 3) := by decide +kernel
theorem dX3_turn_68 : decode cX3_turn 68 = .ok (.lconst 0, 1) := by decide +kernel
theorem dX3_turn_69 : decode cX3_turn 69 = .ok (.lreturn, 1) := by decide +kernel
theorem dX3_turn_70 : decode cX3_turn 70 = .ok (.aload_n 0, 1) := by decide +kernel
theorem dX3_turn_71 : decode cX3_turn 71 = .ok (.iload_n 1, 1) := by decide +kernel
theorem dX3_turn_72 : decode cX3_turn 72 = .ok (.iload 4, 2) := by decide +kernel
theorem dX3_turn_74 : decode cX3_turn 74 = .ok (.lload 7, 2) := by decide +kernel
theorem dX3_turn_76 : decode cX3_turn 76 = .ok (.lload 5, 2) := by decide +kernel
theorem dX3_turn_78 : decode cX3_turn 78 = .ok (.invokestatic 112, 3) := by decide +kernel
theorem dX3_turn_81 : decode cX3_turn 81 = .ok (.invokevirtual 106, 3) := by decide +kernel
theorem dX3_turn_84 : decode cX3_turn 84 = .ok (.lreturn, 1) := by decide +kernel
set_option maxRecDepth 20000 in
theorem ggX3_damp_X3_may : GoodIn wsX3_damp wsX3_may := goodIn_r _ [6, 1, 7, 8, 9, 10, 5, 11, 12, 13, 14, 15, 16, 17, 18, 19, 20, 21, 22, 32, 33, 34, 35, 36, 37, 38] (by decide +kernel) (by decide +kernel)
set_option maxRecDepth 20000 in
theorem gX3_damp_X3_may : GoodIn wsX3_damp (wsV RX3 102 RX3 yX3_may wsX3_may) := goodIn_app (goodIn_of _ (by decide +kernel)) ggX3_damp_X3_may
set_option maxRecDepth 20000 in
theorem ggX3_damp_X3_sizeOf : GoodIn wsX3_damp wsX3_sizeOf := goodIn_r _ [20, 21, 22] (by decide +kernel) (by decide +kernel)
set_option maxRecDepth 20000 in
theorem gX3_damp_X3_sizeOf : GoodIn wsX3_damp (va_wsS RX3 25 yX3_sizeOf wsX3_sizeOf) := goodIn_app (goodIn_of _ (by decide +kernel)) ggX3_damp_X3_sizeOf
set_option maxRecDepth 20000 in
theorem ggX3_damp_X3_set : GoodIn wsX3_damp wsX3_set := goodIn_r _ [26, 27, 32, 33, 34, 35, 36, 37, 38] (by decide +kernel) (by decide +kernel)
set_option maxRecDepth 20000 in
theorem gX3_damp_X3_set : GoodIn wsX3_damp (wsV RX3 88 RX3 yX3_set wsX3_set) := goodIn_app (goodIn_of _ (by decide +kernel)) ggX3_damp_X3_set
set_option maxRecDepth 20000 in
theorem ggX3_damp_X3_get : GoodIn wsX3_damp wsX3_get := goodIn_r _ [31, 27, 32, 33, 34, 35, 36, 37, 38] (by decide +kernel) (by decide +kernel)
set_option maxRecDepth 20000 in
theorem gX3_damp_X3_get : GoodIn wsX3_damp (wsV RX3 80 RX3 yX3_get wsX3_get) := goodIn_app (goodIn_of _ (by decide +kernel)) ggX3_damp_X3_get
theorem dX3_damp_0 : decode cX3_damp 0 = .ok (.aload_n 0, 1) := by decide +kernel
theorem dX3_damp_1 : decode cX3_damp 1 = .ok (.iload_n 1, 1) := by decide +kernel
theorem dX3_damp_2 : decode cX3_damp 2 = .ok (.lload_n 2, 1) := by decide +kernel
theorem dX3_damp_3 : decode cX3_damp 3 = .ok (.invokevirtual 102, 3) := by decide +kernel
theorem dX3_damp_6 : decode cX3_damp 6 = .ok (.ifCond .ne 5, 3) := by decide +kernel
theorem dX3_damp_9 : decode cX3_damp 9 = .ok (.lconst 0, 1) := by decide +kernel
theorem dX3_damp_10 : decode cX3_damp 10 = .ok (.lreturn, 1) := by decide +kernel
theorem dX3_damp_11 : decode cX3_damp 11 = .ok (.aload_n 0, 1) := by decide +kernel
theorem dX3_damp_12 : decode cX3_damp 12 = .ok (.iload_n 1, 1) := by decide +kernel
theorem dX3_damp_13 : decode cX3_damp 13 = .ok (.iconst 3, 1) := by decide +kernel
theorem dX3_damp_14 : decode cX3_damp 14 = .ok (.aload_n 0, 1) := by decide +kernel
theorem dX3_damp_15 : decode cX3_damp 15 = .ok (.getfield 7, 3) := by decide +kernel
theorem dX3_damp_18 : decode cX3_damp 18 = .ok (.iload_n 1, 1) := by decide +kernel
theorem dX3_damp_19 : decode cX3_damp 19 = .ok (.baload, 1) := by decide +kernel
theorem dX3_damp_20 : decode cX3_damp 20 = .ok (.lload_n 2, 1) := by decide +kernel
theorem dX3_damp_21 : decode cX3_damp 21 = .ok (.invokestatic 25, 3) := by decide +kernel
theorem dX3_damp_24 : decode cX3_damp 24 = .ok (.invokevirtual 88, 3) := by decide +kernel
theorem dX3_damp_27 : decode cX3_damp 27 = .ok (.aload_n 0, 1) := by decide +kernel
theorem dX3_damp_28 : decode cX3_damp 28 = .ok (.iload_n 1, 1) := by decide +kernel
theorem dX3_damp_29 : decode cX3_damp 29 = .ok (.iconst 3, 1) := by decide +kernel
theorem dX3_damp_30 : decode cX3_damp 30 = .ok (.invokevirtual 80, 3) := by decide +kernel
theorem dX3_damp_33 : decode cX3_damp 33 = .ok (.lreturn, 1) := by decide +kernel
set_option maxRecDepth 20000 in
theorem ggX3_pull_X3_may : GoodIn wsX3_pull wsX3_may := goodIn_r _ [6, 1, 7, 8, 9, 10, 5, 11, 12, 13, 14, 15, 16, 17, 18, 19, 20, 21, 22, 95, 96, 97, 98, 99, 100, 101] (by decide +kernel) (by decide +kernel)
set_option maxRecDepth 20000 in
theorem gX3_pull_X3_may : GoodIn wsX3_pull (wsV RX3 102 RX3 yX3_may wsX3_may) := goodIn_app (goodIn_of _ (by decide +kernel)) ggX3_pull_X3_may
set_option maxRecDepth 20000 in
theorem ggX3_pull_X3_own : GoodIn wsX3_pull wsX3_own := goodIn_r _ [25] (by decide +kernel) (by decide +kernel)
set_option maxRecDepth 20000 in
theorem gX3_pull_X3_own : GoodIn wsX3_pull (va_wsS RX3 95 yX3_own wsX3_own) := goodIn_app (goodIn_of _ (by decide +kernel)) ggX3_pull_X3_own
set_option maxRecDepth 20000 in
theorem ggX3_pull_X3_get : GoodIn wsX3_pull wsX3_get := goodIn_r _ [29, 30, 95, 96, 97, 98, 99, 100, 101] (by decide +kernel) (by decide +kernel)
set_option maxRecDepth 20000 in
theorem gX3_pull_X3_get : GoodIn wsX3_pull (wsV RX3 80 RX3 yX3_get wsX3_get) := goodIn_app (goodIn_of _ (by decide +kernel)) ggX3_pull_X3_get
set_option maxRecDepth 20000 in
theorem ggX3_pull_X3_alike : GoodIn wsX3_pull wsX3_alike := goodIn_r _ [33, 34, 35, 5, 36, 18, 19, 20, 21, 22] (by decide +kernel) (by decide +kernel)
set_option maxRecDepth 20000 in
theorem gX3_pull_X3_alike : GoodIn wsX3_pull (va_wsS RX3 116 yX3_alike wsX3_alike) := goodIn_app (goodIn_of _ (by decide +kernel)) ggX3_pull_X3_alike
set_option maxRecDepth 20000 in
theorem ggX3_pull_X3_turned : GoodIn wsX3_pull wsX3_turned := goodIn_r _ [39, 18, 19, 5, 20, 21, 22, 40, 41, 42, 43, 44] (by decide +kernel) (by decide +kernel)
set_option maxRecDepth 20000 in
theorem gX3_pull_X3_turned : GoodIn wsX3_pull (va_wsS RX3 120 yX3_turned wsX3_turned) := goodIn_app (goodIn_of _ (by decide +kernel)) ggX3_pull_X3_turned
set_option maxRecDepth 20000 in
theorem ggX3_pull_X3_sum : GoodIn wsX3_pull wsX3_sum := goodIn_r _ [47, 48, 49, 50, 51, 52, 53, 54, 55, 56, 57, 58, 59, 60, 61, 62, 63, 64, 65, 66, 67, 68, 69, 70, 71, 72, 73, 74, 75, 76, 77] (by decide +kernel) (by decide +kernel)
set_option maxRecDepth 20000 in
theorem gX3_pull_X3_sum : GoodIn wsX3_pull (va_wsS RX3 112 yX3_sum wsX3_sum) := goodIn_app (goodIn_of _ (by decide +kernel)) ggX3_pull_X3_sum
set_option maxRecDepth 20000 in
theorem ggX3_pull_X3_sizeOf : GoodIn wsX3_pull wsX3_sizeOf := goodIn_r _ [20, 21, 22] (by decide +kernel) (by decide +kernel)
set_option maxRecDepth 20000 in
theorem gX3_pull_X3_sizeOf : GoodIn wsX3_pull (va_wsS RX3 25 yX3_sizeOf wsX3_sizeOf) := goodIn_app (goodIn_of _ (by decide +kernel)) ggX3_pull_X3_sizeOf
set_option maxRecDepth 20000 in
theorem ggX3_pull_X3_sided : GoodIn wsX3_pull wsX3_sided := goodIn_r _ [42, 43, 44] (by decide +kernel) (by decide +kernel)
set_option maxRecDepth 20000 in
theorem gX3_pull_X3_sided : GoodIn wsX3_pull (va_wsS RX3 59 yX3_sided wsX3_sided) := goodIn_app (goodIn_of _ (by decide +kernel)) ggX3_pull_X3_sided
set_option maxRecDepth 20000 in
theorem ggX3_pull_X3_becomes : GoodIn wsX3_pull wsX3_becomes := goodIn_r _ [81, 1, 82, 83, 84, 85, 5, 86, 87, 88, 89, 90, 18, 19, 20, 21, 22, 26, 27, 28, 29, 30, 91, 92, 93, 94, 95, 96, 97, 98, 99, 100, 101] (by decide +kernel) (by decide +kernel)
set_option maxRecDepth 20000 in
theorem gX3_pull_X3_becomes : GoodIn wsX3_pull (wsV RX3 106 RX3 yX3_becomes wsX3_becomes) := goodIn_app (goodIn_of _ (by decide +kernel)) ggX3_pull_X3_becomes
theorem dX3_pull_0 : decode cX3_pull 0 = .ok (.aload_n 0, 1) := by decide +kernel
theorem dX3_pull_1 : decode cX3_pull 1 = .ok (.iload_n 1, 1) := by decide +kernel
theorem dX3_pull_2 : decode cX3_pull 2 = .ok (.lload_n 2, 1) := by decide +kernel
theorem dX3_pull_3 : decode cX3_pull 3 = .ok (.invokevirtual 102, 3) := by decide +kernel
theorem dX3_pull_6 : decode cX3_pull 6 = .ok (.ifCond .ne 5, 3) := by decide +kernel
theorem dX3_pull_9 : decode cX3_pull 9 = .ok (.iconst 0, 1) := by decide +kernel
theorem dX3_pull_10 : decode cX3_pull 10 = .ok (.ireturn, 1) := by decide +kernel
theorem dX3_pull_11 : decode cX3_pull 11 = .ok (.aload_n 0, 1) := by decide +kernel
theorem dX3_pull_12 : decode cX3_pull 12 = .ok (.getfield 7, 3) := by decide +kernel
theorem dX3_pull_15 : decode cX3_pull 15 = .ok (.iload_n 1, 1) := by decide +kernel
theorem dX3_pull_16 : decode cX3_pull 16 = .ok (.baload, 1) := by decide +kernel
theorem dX3_pull_17 : decode cX3_pull 17 = .ok (.istore 4, 2) := by decide +kernel
theorem dX3_pull_19 : decode cX3_pull 19 = .ok (.iload 4, 2) := by decide +kernel
theorem dX3_pull_21 : decode cX3_pull 21 = .ok (.lload_n 2, 1) := by decide +kernel
theorem dX3_pull_22 : decode cX3_pull 22 = .ok (.invokestatic 95, 3) := by decide +kernel
theorem dX3_pull_25 : decode cX3_pull 25 = .ok (.lstore 5, 2) := by decide +kernel
theorem dX3_pull_27 : decode cX3_pull 27 = .ok (.aload_n 0, 1) := by decide +kernel
theorem dX3_pull_28 : decode cX3_pull 28 = .ok (.iload_n 1, 1) := by decide +kernel
theorem dX3_pull_29 : decode cX3_pull 29 = .ok (.iconst 2, 1) := by decide +kernel
theorem dX3_pull_30 : decode cX3_pull 30 = .ok (.invokevirtual 80, 3) := by decide +kernel
theorem dX3_pull_33 : decode cX3_pull 33 = .ok (.lstore 7, 2) := by decide +kernel
theorem dX3_pull_35 : decode cX3_pull 35 = .ok (.lload 5, 2) := by decide +kernel
theorem dX3_pull_37 : decode cX3_pull 37 = .ok (.lstore 9, 2) := by decide +kernel
theorem dX3_pull_39 : decode cX3_pull 39 = .ok (.iload 4, 2) := by decide +kernel
theorem dX3_pull_41 : decode cX3_pull 41 = .ok (.lload 7, 2) := by decide +kernel
theorem dX3_pull_43 : decode cX3_pull 43 = .ok (.lload 5, 2) := by decide +kernel
theorem dX3_pull_45 : decode cX3_pull 45 = .ok (.invokestatic 116, 3) := by decide +kernel
theorem dX3_pull_48 : decode cX3_pull 48 = .ok (.ifCond .ne 68, 3) := by decide +kernel
theorem dX3_pull_51 : decode cX3_pull 51 = .ok (.iload 4, 2) := by decide +kernel
theorem dX3_pull_53 : decode cX3_pull 53 = .ok (.lload 5, 2) := by decide +kernel
theorem dX3_pull_55 : decode cX3_pull 55 = .ok (.iload 4, 2) := by decide +kernel
theorem dX3_pull_57 : decode cX3_pull 57 = .ok (.lload 7, 2) := by decide +kernel
theorem dX3_pull_59 : decode cX3_pull 59 = .ok (.invokestatic 120, 3) := by decide +kernel
theorem dX3_pull_62 : decode cX3_pull 62 = .ok (.invokestatic 112, 3) := by decide +kernel
theorem dX3_pull_65 : decode cX3_pull 65 = .ok (.lstore 11, 2) := by decide +kernel
theorem dX3_pull_67 : decode cX3_pull 67 = .ok (.iload 4, 2) := by decide +kernel
theorem dX3_pull_69 : decode cX3_pull 69 = .ok (.lload 11, 2) := by decide +kernel
theorem dX3_pull_71 : decode cX3_pull 71 = .ok (.invokestatic 25, 3) := by decide +kernel
theorem dX3_pull_74 : decode cX3_pull 74 = .ok (.aload_n 0, 1) := by decide +kernel
theorem dX3_pull_75 : decode cX3_pull 75 = .ok (.iload_n 1, 1) := by decide +kernel
theorem dX3_pull_76 : decode cX3_pull 76 = .ok (.iconst 3, 1) := by decide +kernel
theorem dX3_pull_77 : decode cX3_pull 77 = .ok (.invokevirtual 80, 3) := by decide +kernel
theorem dX3_pull_80 : decode cX3_pull 80 = .ok (.lcmp, 1) := by decide +kernel
theorem dX3_pull_81 : decode cX3_pull 81 = .ok (.ifCond .le 35, 3) := by decide +kernel
theorem dX3_pull_84 : decode cX3_pull 84 = .ok (.iload 4, 2) := by decide +kernel
theorem dX3_pull_86 : decode cX3_pull 86 = .ok (.lload 7, 2) := by decide +kernel
theorem dX3_pull_88 : decode cX3_pull 88 = .ok (.iload 4, 2) := by decide +kernel
theorem dX3_pull_90 : decode cX3_pull 90 = .ok (.aload_n 0, 1) := by decide +kernel
theorem dX3_pull_91 : decode cX3_pull 91 = .ok (.iload_n 1, 1) := by decide +kernel
theorem dX3_pull_92 : decode cX3_pull 92 = .ok (.iconst 3, 1) := by decide +kernel
theorem dX3_pull_93 : decode cX3_pull 93 = .ok (.invokevirtual 80, 3) := by decide +kernel
theorem dX3_pull_96 : decode cX3_pull 96 = .ok (.lload 11, 2) := by decide +kernel
theorem dX3_pull_98 : decode cX3_pull 98 = .ok (.lconst 0, 1) := by decide +kernel
theorem dX3_pull_99 : decode cX3_pull 99 = .ok (.lcmp, 1) := by decide +kernel
theorem dX3_pull_100 : decode cX3_pull 100 = .ok (.ifCond .ge 7, 3) := by decide +kernel
theorem dX3_pull_103 : decode cX3_pull 103 = .ok (.iconst 1, 1) := by decide +kernel
theorem dX3_pull_104 : decode cX3_pull 104 = .ok (.goto 4, 3) := by decide +kernel
theorem dX3_pull_107 : decode cX3_pull 107 = .ok (.iconst 0, 1) := by decide +kernel
theorem dX3_pull_108 : decode cX3_pull 108 = .ok (.invokestatic 59, 3) := by decide +kernel
theorem dX3_pull_111 : decode cX3_pull 111 = .ok (.invokestatic 112, 3) := by decide +kernel
theorem dX3_pull_114 : decode cX3_pull 114 = .ok (.lstore 9, 2) := by decide +kernel
theorem dX3_pull_116 : decode cX3_pull 116 = .ok (.iload 4, 2) := by decide +kernel
theorem dX3_pull_118 : decode cX3_pull 118 = .ok (.aload_n 0, 1) := by decide +kernel
theorem dX3_pull_119 : decode cX3_pull 119 = .ok (.iload_n 1, 1) := by decide +kernel
theorem dX3_pull_120 : decode cX3_pull 120 = .ok (.lload 9, 2) := by decide +kernel
theorem dX3_pull_122 : decode cX3_pull 122 = .ok (.invokevirtual 106, 3) := by decide +kernel
theorem dX3_pull_125 : decode cX3_pull 125 = .ok (.lload 5, 2) := by decide +kernel
theorem dX3_pull_127 : decode cX3_pull 127 = .ok (.invokestatic 116, 3) := by decide +kernel
theorem dX3_pull_130 : decode cX3_pull 130 = .ok (.ireturn, 1) := by decide +kernel
theorem dX3_whole_0 : decode cX3_whole 0 = .ok (.dload_n 0, 1) := by decide +kernel
theorem dX3_whole_1 : decode cX3_whole 1 = .ok (.ldc2_w 123, 3) := by decide +kernel
theorem dX3_whole_4 : decode cX3_whole 4 = .ok (.dcmp .l, 1) := by decide +kernel
theorem dX3_whole_5 : decode cX3_whole 5 = .ok (.ifCond .lt 5, 3) := by decide +kernel
theorem dX3_whole_8 : decode cX3_whole 8 = .ok (.dload_n 0, 1) := by decide +kernel
theorem dX3_whole_9 : decode cX3_whole 9 = .ok (.dreturn, 1) := by decide +kernel
theorem dX3_whole_10 : decode cX3_whole 10 = .ok (.dload_n 0, 1) := by decide +kernel
theorem dX3_whole_11 : decode cX3_whole 11 = .ok (.d2l, 1) := by decide +kernel
theorem dX3_whole_12 : decode cX3_whole 12 = .ok (.lstore 4, 2) := by decide +kernel
theorem dX3_whole_14 : decode cX3_whole 14 = .ok (.dload_n 0, 1) := by decide +kernel
theorem dX3_whole_15 : decode cX3_whole 15 = .ok (.lload 4, 2) := by decide +kernel
theorem dX3_whole_17 : decode cX3_whole 17 = .ok (.l2d, 1) := by decide +kernel
theorem dX3_whole_18 : decode cX3_whole 18 = .ok (.dsub, 1) := by decide +kernel
theorem dX3_whole_19 : decode cX3_whole 19 = .ok (.dstore 6, 2) := by decide +kernel
theorem dX3_whole_21 : decode cX3_whole 21 = .ok (.iload_n 3, 1) := by decide +kernel
theorem dX3_whole_22 : decode cX3_whole 22 = .ok (.ifCond .ne 22, 3) := by decide +kernel
theorem dX3_whole_25 : decode cX3_whole 25 = .ok (.iload_n 2, 1) := by decide +kernel
theorem dX3_whole_26 : decode cX3_whole 26 = .ok (.ifCond .eq 14, 3) := by decide +kernel
theorem dX3_whole_29 : decode cX3_whole 29 = .ok (.dload 6, 2) := by decide +kernel
theorem dX3_whole_31 : decode cX3_whole 31 = .ok (.dconst 0, 1) := by decide +kernel
theorem dX3_whole_32 : decode cX3_whole 32 = .ok (.dcmp .l, 1) := by decide +kernel
theorem dX3_whole_33 : decode cX3_whole 33 = .ok (.ifCond .le 7, 3) := by decide +kernel
theorem dX3_whole_36 : decode cX3_whole 36 = .ok (.iconst 1, 1) := by decide +kernel
theorem dX3_whole_37 : decode cX3_whole 37 = .ok (.goto 63, 3) := by decide +kernel
theorem dX3_whole_40 : decode cX3_whole 40 = .ok (.iconst 0, 1) := by decide +kernel
theorem dX3_whole_41 : decode cX3_whole 41 = .ok (.goto 59, 3) := by decide +kernel
theorem dX3_whole_44 : decode cX3_whole 44 = .ok (.iload_n 3, 1) := by decide +kernel
theorem dX3_whole_45 : decode cX3_whole 45 = .ok (.iconst 1, 1) := by decide +kernel
theorem dX3_whole_46 : decode cX3_whole 46 = .ok (.if_icmp .ne 22, 3) := by decide +kernel
theorem dX3_whole_49 : decode cX3_whole 49 = .ok (.iload_n 2, 1) := by decide +kernel
theorem dX3_whole_50 : decode cX3_whole 50 = .ok (.ifCond .ne 14, 3) := by decide +kernel
theorem dX3_whole_53 : decode cX3_whole 53 = .ok (.dload 6, 2) := by decide +kernel
theorem dX3_whole_55 : decode cX3_whole 55 = .ok (.dconst 0, 1) := by decide +kernel
theorem dX3_whole_56 : decode cX3_whole 56 = .ok (.dcmp .l, 1) := by decide +kernel
theorem dX3_whole_57 : decode cX3_whole 57 = .ok (.ifCond .le 7, 3) := by decide +kernel
theorem dX3_whole_60 : decode cX3_whole 60 = .ok (.iconst 1, 1) := by decide +kernel
theorem dX3_whole_61 : decode cX3_whole 61 = .ok (.goto 39, 3) := by decide +kernel
theorem dX3_whole_64 : decode cX3_whole 64 = .ok (.iconst 0, 1) := by decide +kernel
theorem dX3_whole_65 : decode cX3_whole 65 = .ok (.goto 35, 3) := by decide +kernel
theorem dX3_whole_68 : decode cX3_whole 68 = .ok (.dload 6, 2) := by decide +kernel
theorem dX3_whole_70 : decode cX3_whole 70 = .ok (.ldc2_w 125, 3) := by decide +kernel
theorem dX3_whole_73 : decode cX3_whole 73 = .ok (.dcmp .l, 1) := by decide +kernel
theorem dX3_whole_74 : decode cX3_whole 74 = .ok (.ifCond .gt 21, 3) := by decide +kernel
theorem dX3_whole_77 : decode cX3_whole 77 = .ok (.dload 6, 2) := by decide +kernel
theorem dX3_whole_79 : decode cX3_whole 79 = .ok (.ldc2_w 125, 3) := by decide +kernel
theorem dX3_whole_82 : decode cX3_whole 82 = .ok (.dcmp .l, 1) := by decide +kernel
theorem dX3_whole_83 : decode cX3_whole 83 = .ok (.ifCond .ne 16, 3) := by decide +kernel
theorem dX3_whole_86 : decode cX3_whole 86 = .ok (.lload 4, 2) := by decide +kernel
theorem dX3_whole_88 : decode cX3_whole 88 = .ok (.lconst 1, 1) := by decide +kernel
theorem dX3_whole_89 : decode cX3_whole 89 = .ok (.land, 1) := by decide +kernel
theorem dX3_whole_90 : decode cX3_whole 90 = .ok (.lconst 1, 1) := by decide +kernel
theorem dX3_whole_91 : decode cX3_whole 91 = .ok (.lcmp, 1) := by decide +kernel
theorem dX3_whole_92 : decode cX3_whole 92 = .ok (.ifCond .ne 7, 3) := by decide +kernel
theorem dX3_whole_95 : decode cX3_whole 95 = .ok (.iconst 1, 1) := by decide +kernel
theorem dX3_whole_96 : decode cX3_whole 96 = .ok (.goto 4, 3) := by decide +kernel
theorem dX3_whole_99 : decode cX3_whole 99 = .ok (.iconst 0, 1) := by decide +kernel
theorem dX3_whole_100 : decode cX3_whole 100 = .ok (.istore 8, 2) := by decide +kernel
theorem dX3_whole_102 : decode cX3_whole 102 = .ok (.iload 8, 2) := by decide +kernel
theorem dX3_whole_104 : decode cX3_whole 104 = .ok (.ifCond .eq 11, 3) := by decide +kernel
theorem dX3_whole_107 : decode cX3_whole 107 = .ok (.lload 4, 2) := by decide +kernel
theorem dX3_whole_109 : decode cX3_whole 109 = .ok (.l2d, 1) := by decide +kernel
theorem dX3_whole_110 : decode cX3_whole 110 = .ok (.dconst 1, 1) := by decide +kernel
theorem dX3_whole_111 : decode cX3_whole 111 = .ok (.dadd, 1) := by decide +kernel
theorem dX3_whole_112 : decode cX3_whole 112 = .ok (.goto 6, 3) := by decide +kernel
theorem dX3_whole_115 : decode cX3_whole 115 = .ok (.lload 4, 2) := by decide +kernel
theorem dX3_whole_117 : decode cX3_whole 117 = .ok (.l2d, 1) := by decide +kernel
theorem dX3_whole_118 : decode cX3_whole 118 = .ok (.dreturn, 1) := by decide +kernel
set_option maxRecDepth 20000 in
theorem ggX3_rest_X3_isThere : GoodIn wsX3_rest wsX3_isThere := goodIn_r _ [15, 16, 1, 76, 77, 78, 79, 80, 81, 82] (by decide +kernel) (by decide +kernel)
set_option maxRecDepth 20000 in
theorem gX3_rest_X3_isThere : GoodIn wsX3_rest (wsV RX3 70 RX3 yX3_isThere wsX3_isThere) := goodIn_app (goodIn_of _ (by decide +kernel)) ggX3_rest_X3_isThere
set_option maxRecDepth 20000 in
theorem ggX3_rest_X3_get : GoodIn wsX3_rest wsX3_get := goodIn_r _ [20, 21, 76, 77, 78, 79, 80, 81, 82] (by decide +kernel) (by decide +kernel)
set_option maxRecDepth 20000 in
theorem gX3_rest_X3_get : GoodIn wsX3_rest (wsV RX3 80 RX3 yX3_get wsX3_get) := goodIn_app (goodIn_of _ (by decide +kernel)) ggX3_rest_X3_get
set_option maxRecDepth 20000 in
theorem ggX3_rest_X3_sizeOf : GoodIn wsX3_rest wsX3_sizeOf := goodIn_r _ [24, 25, 26] (by decide +kernel) (by decide +kernel)
set_option maxRecDepth 20000 in
theorem gX3_rest_X3_sizeOf : GoodIn wsX3_rest (va_wsS RX3 25 yX3_sizeOf wsX3_sizeOf) := goodIn_app (goodIn_of _ (by decide +kernel)) ggX3_rest_X3_sizeOf
set_option maxRecDepth 20000 in
theorem ggX3_rest_X3_whole : GoodIn wsX3_rest wsX3_whole := goodIn_r _ [29, 30, 31] (by decide +kernel) (by decide +kernel)
set_option maxRecDepth 20000 in
theorem gX3_rest_X3_whole : GoodIn wsX3_rest (va_wsS RX3 127 yX3_whole wsX3_whole) := goodIn_app (goodIn_of _ (by decide +kernel)) ggX3_rest_X3_whole
set_option maxRecDepth 20000 in
theorem ggX3_rest_Jxe99ae_doubleToLongBits_ccdee : GoodIn wsX3_rest wsJxe99ae_doubleToLongBits_ccdee := goodIn_r _ [35, 36, 37, 38, 6, 39, 40, 41, 34, 42] (by decide +kernel) (by decide +kernel)
set_option maxRecDepth 20000 in
theorem gX3_rest_Jxe99ae_doubleToLongBits_ccdee : GoodIn wsX3_rest (va_wsS RX3 45 yJxe99ae_doubleToLongBits_ccdee wsJxe99ae_doubleToLongBits_ccdee) := goodIn_app (goodIn_of _ (by decide +kernel)) ggX3_rest_Jxe99ae_doubleToLongBits_ccdee
set_option maxRecDepth 20000 in
theorem ggX3_rest_Jxf58ca_floatToIntBits_5c35a : GoodIn wsX3_rest wsJxf58ca_floatToIntBits_5c35a := goodIn_r _ [46, 47, 48, 49, 10, 50, 51, 52, 45, 53] (by decide +kernel) (by decide +kernel)
set_option maxRecDepth 20000 in
theorem gX3_rest_Jxf58ca_floatToIntBits_5c35a : GoodIn wsX3_rest (va_wsS RX3 55 yJxf58ca_floatToIntBits_5c35a wsJxf58ca_floatToIntBits_5c35a) := goodIn_app (goodIn_of _ (by decide +kernel)) ggX3_rest_Jxf58ca_floatToIntBits_5c35a
set_option maxRecDepth 20000 in
theorem ggX3_rest_X3_sided : GoodIn wsX3_rest wsX3_sided := goodIn_r _ [56, 57, 58] (by decide +kernel) (by decide +kernel)
set_option maxRecDepth 20000 in
theorem gX3_rest_X3_sided : GoodIn wsX3_rest (va_wsS RX3 59 yX3_sided wsX3_sided) := goodIn_app (goodIn_of _ (by decide +kernel)) ggX3_rest_X3_sided
set_option maxRecDepth 20000 in
theorem ggX3_rest_X3_becomes : GoodIn wsX3_rest wsX3_becomes := goodIn_r _ [62, 2, 63, 64, 65, 66, 14, 67, 68, 69, 70, 71, 22, 23, 24, 25, 26, 17, 18, 19, 20, 21, 72, 73, 74, 75, 76, 77, 78, 79, 80, 81, 82] (by decide +kernel) (by decide +kernel)
set_option maxRecDepth 20000 in
theorem gX3_rest_X3_becomes : GoodIn wsX3_rest (wsV RX3 106 RX3 yX3_becomes wsX3_becomes) := goodIn_app (goodIn_of _ (by decide +kernel)) ggX3_rest_X3_becomes
theorem dX3_rest_0 : decode cX3_rest 0 = .ok (.aload_n 0, 1) := by decide +kernel
theorem dX3_rest_1 : decode cX3_rest 1 = .ok (.iload_n 1, 1) := by decide +kernel
theorem dX3_rest_2 : decode cX3_rest 2 = .ok (.invokevirtual 70, 3) := by decide +kernel
theorem dX3_rest_5 : decode cX3_rest 5 = .ok (.ifCond .ne 5, 3) := by decide +kernel
theorem dX3_rest_8 : decode cX3_rest 8 = .ok (.lconst 0, 1) := by decide +kernel
theorem dX3_rest_9 : decode cX3_rest 9 = .ok (.lreturn, 1) := by decide +kernel
theorem dX3_rest_10 : decode cX3_rest 10 = .ok (.iload_n 2, 1) := by decide +kernel
theorem dX3_rest_11 : decode cX3_rest 11 = .ok (.ifCond .lt 8, 3) := by decide +kernel
theorem dX3_rest_14 : decode cX3_rest 14 = .ok (.iload_n 2, 1) := by decide +kernel
theorem dX3_rest_15 : decode cX3_rest 15 = .ok (.iconst 2, 1) := by decide +kernel
theorem dX3_rest_16 : decode cX3_rest 16 = .ok (.if_icmp .le 10, 3) := by decide +kernel
theorem dX3_rest_19 : decode cX3_rest 19 = .ok (.aload_n 0, 1) := by decide +kernel
theorem dX3_rest_20 : decode cX3_rest 20 = .ok (.iconst 2, 1) := by decide +kernel
theorem dX3_rest_21 : decode cX3_rest 21 = .ok (.putfield 17, 3) := by decide +kernel
theorem dX3_rest_24 : decode cX3_rest 24 = .ok (.lconst 0, 1) := by decide +kernel
theorem dX3_rest_25 : decode cX3_rest 25 = .ok (.lreturn, 1) := by decide +kernel
theorem dX3_rest_26 : decode cX3_rest 26 = .ok (.aload_n 0, 1) := by decide +kernel
theorem dX3_rest_27 : decode cX3_rest 27 = .ok (.getfield 7, 3) := by decide +kernel
theorem dX3_rest_30 : decode cX3_rest 30 = .ok (.iload_n 1, 1) := by decide +kernel
theorem dX3_rest_31 : decode cX3_rest 31 = .ok (.baload, 1) := by decide +kernel
theorem dX3_rest_32 : decode cX3_rest 32 = .ok (.istore_n 3, 1) := by decide +kernel
theorem dX3_rest_33 : decode cX3_rest 33 = .ok (.aload_n 0, 1) := by decide +kernel
theorem dX3_rest_34 : decode cX3_rest 34 = .ok (.iload_n 1, 1) := by decide +kernel
theorem dX3_rest_35 : decode cX3_rest 35 = .ok (.iconst 2, 1) := by decide +kernel
theorem dX3_rest_36 : decode cX3_rest 36 = .ok (.invokevirtual 80, 3) := by decide +kernel
theorem dX3_rest_39 : decode cX3_rest 39 = .ok (.lstore 4, 2) := by decide +kernel
theorem dX3_rest_41 : decode cX3_rest 41 = .ok (.iload_n 3, 1) := by decide +kernel
theorem dX3_rest_42 : decode cX3_rest 42 = .ok (.lload 4, 2) := by decide +kernel
theorem dX3_rest_44 : decode cX3_rest 44 = .ok (.invokestatic 25, 3) := by decide +kernel
theorem dX3_rest_47 : decode cX3_rest 47 = .ok (.lstore 6, 2) := by decide +kernel
theorem dX3_rest_49 : decode cX3_rest 49 = .ok (.iload_n 3, 1) := by decide +kernel
theorem dX3_rest_50 : decode cX3_rest 50 = .ok (.ifCond .eq 11, 3) := by decide +kernel
theorem dX3_rest_53 : decode cX3_rest 53 = .ok (.lload 6, 2) := by decide +kernel
theorem dX3_rest_55 : decode cX3_rest 55 = .ok (.invokestatic 51, 3) := by decide +kernel
theorem dX3_rest_58 : decode cX3_rest 58 = .ok (.goto 10, 3) := by decide +kernel
theorem dX3_rest_61 : decode cX3_rest 61 = .ok (.lload 6, 2) := by decide +kernel
theorem dX3_rest_63 : decode cX3_rest 63 = .ok (.l2i, 1) := by decide +kernel
theorem dX3_rest_64 : decode cX3_rest 64 = .ok (.invokestatic 39, 3) := by decide +kernel
theorem dX3_rest_67 : decode cX3_rest 67 = .ok (.f2d, 1) := by decide +kernel
theorem dX3_rest_68 : decode cX3_rest 68 = .ok (.lload 4, 2) := by decide +kernel
theorem dX3_rest_70 : decode cX3_rest 70 = .ok (.lconst 0, 1) := by decide +kernel
theorem dX3_rest_71 : decode cX3_rest 71 = .ok (.lcmp, 1) := by decide +kernel
theorem dX3_rest_72 : decode cX3_rest 72 = .ok (.ifCond .ge 7, 3) := by decide +kernel
theorem dX3_rest_75 : decode cX3_rest 75 = .ok (.iconst 1, 1) := by decide +kernel
theorem dX3_rest_76 : decode cX3_rest 76 = .ok (.goto 4, 3) := by decide +kernel
theorem dX3_rest_79 : decode cX3_rest 79 = .ok (.iconst 0, 1) := by decide +kernel
theorem dX3_rest_80 : decode cX3_rest 80 = .ok (.iload_n 2, 1) := by decide +kernel
theorem dX3_rest_81 : decode cX3_rest 81 = .ok (.invokestatic 127, 3) := by decide +kernel
theorem dX3_rest_84 : decode cX3_rest 84 = .ok (.dstore 8, 2) := by decide +kernel
theorem dX3_rest_86 : decode cX3_rest 86 = .ok (.aload_n 0, 1) := by decide +kernel
theorem dX3_rest_87 : decode cX3_rest 87 = .ok (.iload_n 1, 1) := by decide +kernel
theorem dX3_rest_88 : decode cX3_rest 88 = .ok (.iload_n 3, 1) := by decide +kernel
theorem dX3_rest_89 : decode cX3_rest 89 = .ok (.iload_n 3, 1) := by decide +kernel
theorem dX3_rest_90 : decode cX3_rest 90 = .ok (.ifCond .eq 11, 3) := by decide +kernel
theorem dX3_rest_93 : decode cX3_rest 93 = .ok (.dload 8, 2) := by decide +kernel
theorem dX3_rest_95 : decode cX3_rest 95 = .ok (.invokestatic 45, 3) := by decide +kernel
theorem dX3_rest_98 : decode cX3_rest 98 = .ok (.goto 10, 3) := by decide +kernel
theorem dX3_rest_101 : decode cX3_rest 101 = .ok (.dload 8, 2) := by decide +kernel
theorem dX3_rest_103 : decode cX3_rest 103 = .ok (.d2f, 1) := by decide +kernel
theorem dX3_rest_104 : decode cX3_rest 104 = .ok (.invokestatic 55, 3) := by decide +kernel
theorem dX3_rest_107 : decode cX3_rest 107 = .ok (.i2l, 1) := by decide +kernel
theorem dX3_rest_108 : decode cX3_rest 108 = .ok (.lload 4, 2) := by decide +kernel
theorem dX3_rest_110 : decode cX3_rest 110 = .ok (.lconst 0, 1) := by decide +kernel
theorem dX3_rest_111 : decode cX3_rest 111 = .ok (.lcmp, 1) := by decide +kernel
theorem dX3_rest_112 : decode cX3_rest 112 = .ok (.ifCond .ge 7, 3) := by decide +kernel
theorem dX3_rest_115 : decode cX3_rest 115 = .ok (.iconst 1, 1) := by decide +kernel
theorem dX3_rest_116 : decode cX3_rest 116 = .ok (.goto 4, 3) := by decide +kernel
theorem dX3_rest_119 : decode cX3_rest 119 = .ok (.iconst 0, 1) := by decide +kernel
theorem dX3_rest_120 : decode cX3_rest 120 = .ok (.invokestatic 59, 3) := by decide +kernel
theorem dX3_rest_123 : decode cX3_rest 123 = .ok (.invokevirtual 106, 3) := by decide +kernel
theorem dX3_rest_126 : decode cX3_rest 126 = .ok (.lreturn, 1) := by decide +kernel
set_option maxRecDepth 20000 in
theorem ggX3_face_X3_isThere : GoodIn wsX3_face wsX3_isThere := goodIn_r _ [6, 7, 8, 41, 42, 43, 44, 45, 46, 47] (by decide +kernel) (by decide +kernel)
set_option maxRecDepth 20000 in
theorem gX3_face_X3_isThere : GoodIn wsX3_face (wsV RX3 70 RX3 yX3_isThere wsX3_isThere) := goodIn_app (goodIn_of _ (by decide +kernel)) ggX3_face_X3_isThere
set_option maxRecDepth 20000 in
theorem ggX3_face_X3_get : GoodIn wsX3_face wsX3_get := goodIn_r _ [12, 13, 41, 42, 43, 44, 45, 46, 47] (by decide +kernel) (by decide +kernel)
set_option maxRecDepth 20000 in
theorem gX3_face_X3_get : GoodIn wsX3_face (wsV RX3 80 RX3 yX3_get wsX3_get) := goodIn_app (goodIn_of _ (by decide +kernel)) ggX3_face_X3_get
set_option maxRecDepth 20000 in
theorem ggX3_face_X3_sizeOf : GoodIn wsX3_face wsX3_sizeOf := goodIn_r _ [16, 17, 18] (by decide +kernel) (by decide +kernel)
set_option maxRecDepth 20000 in
theorem gX3_face_X3_sizeOf : GoodIn wsX3_face (va_wsS RX3 25 yX3_sizeOf wsX3_sizeOf) := goodIn_app (goodIn_of _ (by decide +kernel)) ggX3_face_X3_sizeOf
set_option maxRecDepth 20000 in
theorem ggX3_face_X3_sided : GoodIn wsX3_face wsX3_sided := goodIn_r _ [21, 22, 23] (by decide +kernel) (by decide +kernel)
set_option maxRecDepth 20000 in
theorem gX3_face_X3_sided : GoodIn wsX3_face (va_wsS RX3 59 yX3_sided wsX3_sided) := goodIn_app (goodIn_of _ (by decide +kernel)) ggX3_face_X3_sided
set_option maxRecDepth 20000 in
theorem ggX3_face_X3_becomes : GoodIn wsX3_face wsX3_becomes := goodIn_r _ [27, 1, 28, 29, 30, 31, 5, 32, 33, 34, 35, 36, 14, 15, 16, 17, 18, 9, 10, 11, 12, 13, 37, 38, 39, 40, 41, 42, 43, 44, 45, 46, 47] (by decide +kernel) (by decide +kernel)
set_option maxRecDepth 20000 in
theorem gX3_face_X3_becomes : GoodIn wsX3_face (wsV RX3 106 RX3 yX3_becomes wsX3_becomes) := goodIn_app (goodIn_of _ (by decide +kernel)) ggX3_face_X3_becomes
theorem dX3_face_0 : decode cX3_face 0 = .ok (.aload_n 0, 1) := by decide +kernel
theorem dX3_face_1 : decode cX3_face 1 = .ok (.iload_n 1, 1) := by decide +kernel
theorem dX3_face_2 : decode cX3_face 2 = .ok (.invokevirtual 70, 3) := by decide +kernel
theorem dX3_face_5 : decode cX3_face 5 = .ok (.ifCond .eq 11, 3) := by decide +kernel
theorem dX3_face_8 : decode cX3_face 8 = .ok (.aload_n 0, 1) := by decide +kernel
theorem dX3_face_9 : decode cX3_face 9 = .ok (.iload_n 2, 1) := by decide +kernel
theorem dX3_face_10 : decode cX3_face 10 = .ok (.invokevirtual 70, 3) := by decide +kernel
theorem dX3_face_13 : decode cX3_face 13 = .ok (.ifCond .ne 5, 3) := by decide +kernel
theorem dX3_face_16 : decode cX3_face 16 = .ok (.lconst 0, 1) := by decide +kernel
theorem dX3_face_17 : decode cX3_face 17 = .ok (.lreturn, 1) := by decide +kernel
theorem dX3_face_18 : decode cX3_face 18 = .ok (.aload_n 0, 1) := by decide +kernel
theorem dX3_face_19 : decode cX3_face 19 = .ok (.getfield 7, 3) := by decide +kernel
theorem dX3_face_22 : decode cX3_face 22 = .ok (.iload_n 1, 1) := by decide +kernel
theorem dX3_face_23 : decode cX3_face 23 = .ok (.baload, 1) := by decide +kernel
theorem dX3_face_24 : decode cX3_face 24 = .ok (.istore_n 3, 1) := by decide +kernel
theorem dX3_face_25 : decode cX3_face 25 = .ok (.aload_n 0, 1) := by decide +kernel
theorem dX3_face_26 : decode cX3_face 26 = .ok (.iload_n 1, 1) := by decide +kernel
theorem dX3_face_27 : decode cX3_face 27 = .ok (.iload_n 3, 1) := by decide +kernel
theorem dX3_face_28 : decode cX3_face 28 = .ok (.iload_n 3, 1) := by decide +kernel
theorem dX3_face_29 : decode cX3_face 29 = .ok (.aload_n 0, 1) := by decide +kernel
theorem dX3_face_30 : decode cX3_face 30 = .ok (.iload_n 1, 1) := by decide +kernel
theorem dX3_face_31 : decode cX3_face 31 = .ok (.iconst 2, 1) := by decide +kernel
theorem dX3_face_32 : decode cX3_face 32 = .ok (.invokevirtual 80, 3) := by decide +kernel
theorem dX3_face_35 : decode cX3_face 35 = .ok (.invokestatic 25, 3) := by decide +kernel
theorem dX3_face_38 : decode cX3_face 38 = .ok (.aload_n 0, 1) := by decide +kernel
theorem dX3_face_39 : decode cX3_face 39 = .ok (.iload_n 2, 1) := by decide +kernel
theorem dX3_face_40 : decode cX3_face 40 = .ok (.iconst 2, 1) := by decide +kernel
theorem dX3_face_41 : decode cX3_face 41 = .ok (.invokevirtual 80, 3) := by decide +kernel
theorem dX3_face_44 : decode cX3_face 44 = .ok (.lconst 0, 1) := by decide +kernel
theorem dX3_face_45 : decode cX3_face 45 = .ok (.lcmp, 1) := by decide +kernel
theorem dX3_face_46 : decode cX3_face 46 = .ok (.ifCond .ge 7, 3) := by decide +kernel
theorem dX3_face_49 : decode cX3_face 49 = .ok (.iconst 1, 1) := by decide +kernel
theorem dX3_face_50 : decode cX3_face 50 = .ok (.goto 4, 3) := by decide +kernel
theorem dX3_face_53 : decode cX3_face 53 = .ok (.iconst 0, 1) := by decide +kernel
theorem dX3_face_54 : decode cX3_face 54 = .ok (.invokestatic 59, 3) := by decide +kernel
theorem dX3_face_57 : decode cX3_face 57 = .ok (.invokevirtual 106, 3) := by decide +kernel
theorem dX3_face_60 : decode cX3_face 60 = .ok (.lreturn, 1) := by decide +kernel
end
section
set_option maxRecDepth 20000 in
theorem ggX3_read_X3_isThere : GoodIn wsX3_read wsX3_isThere := goodIn_r _ [9, 10, 1, 29, 30, 31, 32, 33, 34, 35] (by decide +kernel) (by decide +kernel)
set_option maxRecDepth 20000 in
theorem gX3_read_X3_isThere : GoodIn wsX3_read (wsV RX3 70 RX3 yX3_isThere wsX3_isThere) := goodIn_app (goodIn_of _ (by decide +kernel)) ggX3_read_X3_isThere
set_option maxRecDepth 20000 in
theorem ggX3_read_X3_get : GoodIn wsX3_read wsX3_get := goodIn_r _ [14, 15, 29, 30, 31, 32, 33, 34, 35] (by decide +kernel) (by decide +kernel)
set_option maxRecDepth 20000 in
theorem gX3_read_X3_get : GoodIn wsX3_read (wsV RX3 80 RX3 yX3_get wsX3_get) := goodIn_app (goodIn_of _ (by decide +kernel)) ggX3_read_X3_get
set_option maxRecDepth 20000 in
theorem ggX3_read_X3_sizeOf : GoodIn wsX3_read wsX3_sizeOf := goodIn_r _ [18, 19, 20] (by decide +kernel) (by decide +kernel)
set_option maxRecDepth 20000 in
theorem gX3_read_X3_sizeOf : GoodIn wsX3_read (va_wsS RX3 25 yX3_sizeOf wsX3_sizeOf) := goodIn_app (goodIn_of _ (by decide +kernel)) ggX3_read_X3_sizeOf
set_option maxRecDepth 20000 in
theorem ggX3_read_X3_isNought : GoodIn wsX3_read wsX3_isNought := goodIn_r _ [23, 16, 17, 8, 18, 19, 20] (by decide +kernel) (by decide +kernel)
set_option maxRecDepth 20000 in
theorem gX3_read_X3_isNought : GoodIn wsX3_read (va_wsS RX3 63 yX3_isNought wsX3_isNought) := goodIn_app (goodIn_of _ (by decide +kernel)) ggX3_read_X3_isNought
set_option maxRecDepth 20000 in
theorem ggX3_read_X3_sided : GoodIn wsX3_read wsX3_sided := goodIn_r _ [26, 27, 28] (by decide +kernel) (by decide +kernel)
set_option maxRecDepth 20000 in
theorem gX3_read_X3_sided : GoodIn wsX3_read (va_wsS RX3 59 yX3_sided wsX3_sided) := goodIn_app (goodIn_of _ (by decide +kernel)) ggX3_read_X3_sided
theorem dX3_read_0 : decode cX3_read 0 = .ok (.aload_n 0, 1) := by decide +kernel
theorem dX3_read_1 : decode cX3_read 1 = .ok (.iload_n 1, 1) := by decide +kernel
theorem dX3_read_2 : decode cX3_read 2 = .ok (.invokevirtual 70, 3) := by decide +kernel
theorem dX3_read_5 : decode cX3_read 5 = .ok (.ifCond .ne 5, 3) := by decide +kernel
theorem dX3_read_8 : decode cX3_read 8 = .ok (.lconst 0, 1) := by decide +kernel
theorem dX3_read_9 : decode cX3_read 9 = .ok (.lreturn, 1) := by decide +kernel
theorem dX3_read_10 : decode cX3_read 10 = .ok (.aload_n 0, 1) := by decide +kernel
theorem dX3_read_11 : decode cX3_read 11 = .ok (.iload_n 2, 1) := by decide +kernel
theorem dX3_read_12 : decode cX3_read 12 = .ok (.ifCond .lt 9, 3) := by decide +kernel
theorem dX3_read_15 : decode cX3_read 15 = .ok (.iload_n 2, 1) := by decide +kernel
theorem dX3_read_16 : decode cX3_read 16 = .ok (.bipush 8, 2) := by decide +kernel
theorem dX3_read_18 : decode cX3_read 18 = .ok (.if_icmp .le 7, 3) := by decide +kernel
theorem dX3_read_21 : decode cX3_read 21 = .ok (.iconst 2, 1) := by decide +kernel
theorem dX3_read_22 : decode cX3_read 22 = .ok (.goto 4, 3) := by decide +kernel
theorem dX3_read_25 : decode cX3_read 25 = .ok (.iconst 0, 1) := by decide +kernel
theorem dX3_read_26 : decode cX3_read 26 = .ok (.putfield 17, 3) := by decide +kernel
theorem dX3_read_29 : decode cX3_read 29 = .ok (.aload_n 0, 1) := by decide +kernel
theorem dX3_read_30 : decode cX3_read 30 = .ok (.getfield 7, 3) := by decide +kernel
theorem dX3_read_33 : decode cX3_read 33 = .ok (.iload_n 1, 1) := by decide +kernel
theorem dX3_read_34 : decode cX3_read 34 = .ok (.baload, 1) := by decide +kernel
theorem dX3_read_35 : decode cX3_read 35 = .ok (.istore_n 3, 1) := by decide +kernel
theorem dX3_read_36 : decode cX3_read 36 = .ok (.aload_n 0, 1) := by decide +kernel
theorem dX3_read_37 : decode cX3_read 37 = .ok (.iload_n 1, 1) := by decide +kernel
theorem dX3_read_38 : decode cX3_read 38 = .ok (.iconst 2, 1) := by decide +kernel
theorem dX3_read_39 : decode cX3_read 39 = .ok (.invokevirtual 80, 3) := by decide +kernel
theorem dX3_read_42 : decode cX3_read 42 = .ok (.lstore 4, 2) := by decide +kernel
theorem dX3_read_44 : decode cX3_read 44 = .ok (.iload_n 2, 1) := by decide +kernel
theorem dX3_read_45 : decode cX3_read 45 = .ok (.tableswitch 148 0 8 #[51, 54, 61, 68, 75, 82, 90, 97, 104], 51) := by decide +kernel
theorem dX3_read_96 : decode cX3_read 96 = .ok (.lload 4, 2) := by decide +kernel
theorem dX3_read_98 : decode cX3_read 98 = .ok (.lreturn, 1) := by decide +kernel
theorem dX3_read_99 : decode cX3_read 99 = .ok (.aload_n 0, 1) := by decide +kernel
theorem dX3_read_100 : decode cX3_read 100 = .ok (.iload_n 1, 1) := by decide +kernel
theorem dX3_read_101 : decode cX3_read 101 = .ok (.iconst 0, 1) := by decide +kernel
theorem dX3_read_102 : decode cX3_read 102 = .ok (.invokevirtual 80, 3) := by decide +kernel
theorem dX3_read_105 : decode cX3_read 105 = .ok (.lreturn, 1) := by decide +kernel
theorem dX3_read_106 : decode cX3_read 106 = .ok (.aload_n 0, 1) := by decide +kernel
theorem dX3_read_107 : decode cX3_read 107 = .ok (.iload_n 1, 1) := by decide +kernel
theorem dX3_read_108 : decode cX3_read 108 = .ok (.iconst 1, 1) := by decide +kernel
theorem dX3_read_109 : decode cX3_read 109 = .ok (.invokevirtual 80, 3) := by decide +kernel
theorem dX3_read_112 : decode cX3_read 112 = .ok (.lreturn, 1) := by decide +kernel
theorem dX3_read_113 : decode cX3_read 113 = .ok (.aload_n 0, 1) := by decide +kernel
theorem dX3_read_114 : decode cX3_read 114 = .ok (.iload_n 1, 1) := by decide +kernel
theorem dX3_read_115 : decode cX3_read 115 = .ok (.iconst 4, 1) := by decide +kernel
theorem dX3_read_116 : decode cX3_read 116 = .ok (.invokevirtual 80, 3) := by decide +kernel
theorem dX3_read_119 : decode cX3_read 119 = .ok (.lreturn, 1) := by decide +kernel
theorem dX3_read_120 : decode cX3_read 120 = .ok (.aload_n 0, 1) := by decide +kernel
theorem dX3_read_121 : decode cX3_read 121 = .ok (.iload_n 1, 1) := by decide +kernel
theorem dX3_read_122 : decode cX3_read 122 = .ok (.iconst 5, 1) := by decide +kernel
theorem dX3_read_123 : decode cX3_read 123 = .ok (.invokevirtual 80, 3) := by decide +kernel
theorem dX3_read_126 : decode cX3_read 126 = .ok (.lreturn, 1) := by decide +kernel
theorem dX3_read_127 : decode cX3_read 127 = .ok (.aload_n 0, 1) := by decide +kernel
theorem dX3_read_128 : decode cX3_read 128 = .ok (.iload_n 1, 1) := by decide +kernel
theorem dX3_read_129 : decode cX3_read 129 = .ok (.bipush 6, 2) := by decide +kernel
theorem dX3_read_131 : decode cX3_read 131 = .ok (.invokevirtual 80, 3) := by decide +kernel
theorem dX3_read_134 : decode cX3_read 134 = .ok (.lreturn, 1) := by decide +kernel
theorem dX3_read_135 : decode cX3_read 135 = .ok (.aload_n 0, 1) := by decide +kernel
theorem dX3_read_136 : decode cX3_read 136 = .ok (.iload_n 1, 1) := by decide +kernel
theorem dX3_read_137 : decode cX3_read 137 = .ok (.iconst 3, 1) := by decide +kernel
theorem dX3_read_138 : decode cX3_read 138 = .ok (.invokevirtual 80, 3) := by decide +kernel
theorem dX3_read_141 : decode cX3_read 141 = .ok (.lreturn, 1) := by decide +kernel
theorem dX3_read_142 : decode cX3_read 142 = .ok (.iload_n 3, 1) := by decide +kernel
theorem dX3_read_143 : decode cX3_read 143 = .ok (.lload 4, 2) := by decide +kernel
theorem dX3_read_145 : decode cX3_read 145 = .ok (.invokestatic 25, 3) := by decide +kernel
theorem dX3_read_148 : decode cX3_read 148 = .ok (.lreturn, 1) := by decide +kernel
theorem dX3_read_149 : decode cX3_read 149 = .ok (.iload_n 3, 1) := by decide +kernel
theorem dX3_read_150 : decode cX3_read 150 = .ok (.lload 4, 2) := by decide +kernel
theorem dX3_read_152 : decode cX3_read 152 = .ok (.invokestatic 63, 3) := by decide +kernel
theorem dX3_read_155 : decode cX3_read 155 = .ok (.ifCond .eq 8, 3) := by decide +kernel
theorem dX3_read_158 : decode cX3_read 158 = .ok (.lload 4, 2) := by decide +kernel
theorem dX3_read_160 : decode cX3_read 160 = .ok (.goto 32, 3) := by decide +kernel
theorem dX3_read_163 : decode cX3_read 163 = .ok (.iload_n 3, 1) := by decide +kernel
theorem dX3_read_164 : decode cX3_read 164 = .ok (.iload_n 3, 1) := by decide +kernel
theorem dX3_read_165 : decode cX3_read 165 = .ok (.ifCond .eq 9, 3) := by decide +kernel
theorem dX3_read_168 : decode cX3_read 168 = .ok (.ldc2_w 131, 3) := by decide +kernel
theorem dX3_read_171 : decode cX3_read 171 = .ok (.goto 6, 3) := by decide +kernel
theorem dX3_read_174 : decode cX3_read 174 = .ok (.ldc2_w 133, 3) := by decide +kernel
theorem dX3_read_177 : decode cX3_read 177 = .ok (.lload 4, 2) := by decide +kernel
theorem dX3_read_179 : decode cX3_read 179 = .ok (.lconst 0, 1) := by decide +kernel
theorem dX3_read_180 : decode cX3_read 180 = .ok (.lcmp, 1) := by decide +kernel
theorem dX3_read_181 : decode cX3_read 181 = .ok (.ifCond .ge 7, 3) := by decide +kernel
theorem dX3_read_184 : decode cX3_read 184 = .ok (.iconst 1, 1) := by decide +kernel
theorem dX3_read_185 : decode cX3_read 185 = .ok (.goto 4, 3) := by decide +kernel
theorem dX3_read_188 : decode cX3_read 188 = .ok (.iconst 0, 1) := by decide +kernel
theorem dX3_read_189 : decode cX3_read 189 = .ok (.invokestatic 59, 3) := by decide +kernel
theorem dX3_read_192 : decode cX3_read 192 = .ok (.lreturn, 1) := by decide +kernel
theorem dX3_read_193 : decode cX3_read 193 = .ok (.lconst 0, 1) := by decide +kernel
theorem dX3_read_194 : decode cX3_read 194 = .ok (.lreturn, 1) := by decide +kernel
set_option maxRecDepth 20000 in
theorem ggX3_between_X3_isThere : GoodIn wsX3_between wsX3_isThere := goodIn_r _ [7, 8, 2, 23, 24, 25, 26, 27, 28, 29] (by decide +kernel) (by decide +kernel)
set_option maxRecDepth 20000 in
theorem gX3_between_X3_isThere : GoodIn wsX3_between (wsV RX3 70 RX3 yX3_isThere wsX3_isThere) := goodIn_app (goodIn_of _ (by decide +kernel)) ggX3_between_X3_isThere
set_option maxRecDepth 20000 in
theorem ggX3_between_X3_get : GoodIn wsX3_between wsX3_get := goodIn_r _ [12, 13, 23, 24, 25, 26, 27, 28, 29] (by decide +kernel) (by decide +kernel)
set_option maxRecDepth 20000 in
theorem gX3_between_X3_get : GoodIn wsX3_between (wsV RX3 80 RX3 yX3_get wsX3_get) := goodIn_app (goodIn_of _ (by decide +kernel)) ggX3_between_X3_get
set_option maxRecDepth 20000 in
theorem ggX3_between_X3_sizeOf : GoodIn wsX3_between wsX3_sizeOf := goodIn_r _ [16, 17, 18] (by decide +kernel) (by decide +kernel)
set_option maxRecDepth 20000 in
theorem gX3_between_X3_sizeOf : GoodIn wsX3_between (va_wsS RX3 25 yX3_sizeOf wsX3_sizeOf) := goodIn_app (goodIn_of _ (by decide +kernel)) ggX3_between_X3_sizeOf
set_option maxRecDepth 20000 in
theorem ggX3_between_X3_rank : GoodIn wsX3_between wsX3_rank := goodIn_r _ [21, 22, 14, 15, 6, 16, 17, 18] (by decide +kernel) (by decide +kernel)
set_option maxRecDepth 20000 in
theorem gX3_between_X3_rank : GoodIn wsX3_between (va_wsS RX3 77 yX3_rank wsX3_rank) := goodIn_app (goodIn_of _ (by decide +kernel)) ggX3_between_X3_rank
theorem dX3_between_0 : decode cX3_between 0 = .ok (.aload_n 0, 1) := by decide +kernel
theorem dX3_between_1 : decode cX3_between 1 = .ok (.iload_n 1, 1) := by decide +kernel
theorem dX3_between_2 : decode cX3_between 2 = .ok (.invokevirtual 70, 3) := by decide +kernel
theorem dX3_between_5 : decode cX3_between 5 = .ok (.ifCond .eq 11, 3) := by decide +kernel
theorem dX3_between_8 : decode cX3_between 8 = .ok (.aload_n 0, 1) := by decide +kernel
theorem dX3_between_9 : decode cX3_between 9 = .ok (.iload_n 2, 1) := by decide +kernel
theorem dX3_between_10 : decode cX3_between 10 = .ok (.invokevirtual 70, 3) := by decide +kernel
theorem dX3_between_13 : decode cX3_between 13 = .ok (.ifCond .ne 5, 3) := by decide +kernel
theorem dX3_between_16 : decode cX3_between 16 = .ok (.lconst 0, 1) := by decide +kernel
theorem dX3_between_17 : decode cX3_between 17 = .ok (.lreturn, 1) := by decide +kernel
theorem dX3_between_18 : decode cX3_between 18 = .ok (.aload_n 0, 1) := by decide +kernel
theorem dX3_between_19 : decode cX3_between 19 = .ok (.aload_n 0, 1) := by decide +kernel
theorem dX3_between_20 : decode cX3_between 20 = .ok (.getfield 7, 3) := by decide +kernel
theorem dX3_between_23 : decode cX3_between 23 = .ok (.iload_n 1, 1) := by decide +kernel
theorem dX3_between_24 : decode cX3_between 24 = .ok (.baload, 1) := by decide +kernel
theorem dX3_between_25 : decode cX3_between 25 = .ok (.aload_n 0, 1) := by decide +kernel
theorem dX3_between_26 : decode cX3_between 26 = .ok (.getfield 7, 3) := by decide +kernel
theorem dX3_between_29 : decode cX3_between 29 = .ok (.iload_n 2, 1) := by decide +kernel
theorem dX3_between_30 : decode cX3_between 30 = .ok (.baload, 1) := by decide +kernel
theorem dX3_between_31 : decode cX3_between 31 = .ok (.if_icmp .ne 12, 3) := by decide +kernel
theorem dX3_between_34 : decode cX3_between 34 = .ok (.iload_n 3, 1) := by decide +kernel
theorem dX3_between_35 : decode cX3_between 35 = .ok (.ifCond .lt 8, 3) := by decide +kernel
theorem dX3_between_38 : decode cX3_between 38 = .ok (.iload_n 3, 1) := by decide +kernel
theorem dX3_between_39 : decode cX3_between 39 = .ok (.iconst 3, 1) := by decide +kernel
theorem dX3_between_40 : decode cX3_between 40 = .ok (.if_icmp .le 7, 3) := by decide +kernel
theorem dX3_between_43 : decode cX3_between 43 = .ok (.iconst 2, 1) := by decide +kernel
theorem dX3_between_44 : decode cX3_between 44 = .ok (.goto 4, 3) := by decide +kernel
theorem dX3_between_47 : decode cX3_between 47 = .ok (.iconst 0, 1) := by decide +kernel
theorem dX3_between_48 : decode cX3_between 48 = .ok (.putfield 17, 3) := by decide +kernel
theorem dX3_between_51 : decode cX3_between 51 = .ok (.aload_n 0, 1) := by decide +kernel
theorem dX3_between_52 : decode cX3_between 52 = .ok (.getfield 17, 3) := by decide +kernel
theorem dX3_between_55 : decode cX3_between 55 = .ok (.ifCond .le 5, 3) := by decide +kernel
theorem dX3_between_58 : decode cX3_between 58 = .ok (.lconst 0, 1) := by decide +kernel
theorem dX3_between_59 : decode cX3_between 59 = .ok (.lreturn, 1) := by decide +kernel
theorem dX3_between_60 : decode cX3_between 60 = .ok (.aload_n 0, 1) := by decide +kernel
theorem dX3_between_61 : decode cX3_between 61 = .ok (.getfield 7, 3) := by decide +kernel
theorem dX3_between_64 : decode cX3_between 64 = .ok (.iload_n 1, 1) := by decide +kernel
theorem dX3_between_65 : decode cX3_between 65 = .ok (.baload, 1) := by decide +kernel
theorem dX3_between_66 : decode cX3_between 66 = .ok (.istore 4, 2) := by decide +kernel
theorem dX3_between_68 : decode cX3_between 68 = .ok (.aload_n 0, 1) := by decide +kernel
theorem dX3_between_69 : decode cX3_between 69 = .ok (.iload_n 1, 1) := by decide +kernel
theorem dX3_between_70 : decode cX3_between 70 = .ok (.iconst 2, 1) := by decide +kernel
theorem dX3_between_71 : decode cX3_between 71 = .ok (.invokevirtual 80, 3) := by decide +kernel
theorem dX3_between_74 : decode cX3_between 74 = .ok (.lstore 5, 2) := by decide +kernel
theorem dX3_between_76 : decode cX3_between 76 = .ok (.aload_n 0, 1) := by decide +kernel
theorem dX3_between_77 : decode cX3_between 77 = .ok (.iload_n 2, 1) := by decide +kernel
theorem dX3_between_78 : decode cX3_between 78 = .ok (.iconst 2, 1) := by decide +kernel
theorem dX3_between_79 : decode cX3_between 79 = .ok (.invokevirtual 80, 3) := by decide +kernel
theorem dX3_between_82 : decode cX3_between 82 = .ok (.lstore 7, 2) := by decide +kernel
theorem dX3_between_84 : decode cX3_between 84 = .ok (.iload 4, 2) := by decide +kernel
theorem dX3_between_86 : decode cX3_between 86 = .ok (.lload 5, 2) := by decide +kernel
theorem dX3_between_88 : decode cX3_between 88 = .ok (.invokestatic 25, 3) := by decide +kernel
theorem dX3_between_91 : decode cX3_between 91 = .ok (.lstore 9, 2) := by decide +kernel
theorem dX3_between_93 : decode cX3_between 93 = .ok (.iload 4, 2) := by decide +kernel
theorem dX3_between_95 : decode cX3_between 95 = .ok (.lload 7, 2) := by decide +kernel
theorem dX3_between_97 : decode cX3_between 97 = .ok (.invokestatic 25, 3) := by decide +kernel
theorem dX3_between_100 : decode cX3_between 100 = .ok (.lstore 11, 2) := by decide +kernel
theorem dX3_between_102 : decode cX3_between 102 = .ok (.iload 4, 2) := by decide +kernel
theorem dX3_between_104 : decode cX3_between 104 = .ok (.lload 5, 2) := by decide +kernel
theorem dX3_between_106 : decode cX3_between 106 = .ok (.invokestatic 77, 3) := by decide +kernel
theorem dX3_between_109 : decode cX3_between 109 = .ok (.iload 4, 2) := by decide +kernel
theorem dX3_between_111 : decode cX3_between 111 = .ok (.lload 7, 2) := by decide +kernel
theorem dX3_between_113 : decode cX3_between 113 = .ok (.invokestatic 77, 3) := by decide +kernel
theorem dX3_between_116 : decode cX3_between 116 = .ok (.lcmp, 1) := by decide +kernel
theorem dX3_between_117 : decode cX3_between 117 = .ok (.ifCond .ge 7, 3) := by decide +kernel
theorem dX3_between_120 : decode cX3_between 120 = .ok (.iconst 1, 1) := by decide +kernel
theorem dX3_between_121 : decode cX3_between 121 = .ok (.goto 4, 3) := by decide +kernel
theorem dX3_between_124 : decode cX3_between 124 = .ok (.iconst 0, 1) := by decide +kernel
theorem dX3_between_125 : decode cX3_between 125 = .ok (.istore 13, 2) := by decide +kernel
theorem dX3_between_127 : decode cX3_between 127 = .ok (.iload_n 3, 1) := by decide +kernel
theorem dX3_between_128 : decode cX3_between 128 = .ok (.tableswitch 70 0 2 #[28, 41, 54], 28) := by decide +kernel
theorem dX3_between_156 : decode cX3_between 156 = .ok (.iload 13, 2) := by decide +kernel
theorem dX3_between_158 : decode cX3_between 158 = .ok (.ifCond .eq 8, 3) := by decide +kernel
theorem dX3_between_161 : decode cX3_between 161 = .ok (.lload 5, 2) := by decide +kernel
theorem dX3_between_163 : decode cX3_between 163 = .ok (.goto 5, 3) := by decide +kernel
theorem dX3_between_166 : decode cX3_between 166 = .ok (.lload 7, 2) := by decide +kernel
theorem dX3_between_168 : decode cX3_between 168 = .ok (.lreturn, 1) := by decide +kernel
theorem dX3_between_169 : decode cX3_between 169 = .ok (.iload 13, 2) := by decide +kernel
theorem dX3_between_171 : decode cX3_between 171 = .ok (.ifCond .eq 8, 3) := by decide +kernel
theorem dX3_between_174 : decode cX3_between 174 = .ok (.lload 7, 2) := by decide +kernel
theorem dX3_between_176 : decode cX3_between 176 = .ok (.goto 5, 3) := by decide +kernel
theorem dX3_between_179 : decode cX3_between 179 = .ok (.lload 5, 2) := by decide +kernel
theorem dX3_between_181 : decode cX3_between 181 = .ok (.lreturn, 1) := by decide +kernel
theorem dX3_between_182 : decode cX3_between 182 = .ok (.lload 9, 2) := by decide +kernel
theorem dX3_between_184 : decode cX3_between 184 = .ok (.lload 11, 2) := by decide +kernel
theorem dX3_between_186 : decode cX3_between 186 = .ok (.lcmp, 1) := by decide +kernel
theorem dX3_between_187 : decode cX3_between 187 = .ok (.ifCond .ge 8, 3) := by decide +kernel
theorem dX3_between_190 : decode cX3_between 190 = .ok (.lload 9, 2) := by decide +kernel
theorem dX3_between_192 : decode cX3_between 192 = .ok (.goto 5, 3) := by decide +kernel
theorem dX3_between_195 : decode cX3_between 195 = .ok (.lload 11, 2) := by decide +kernel
theorem dX3_between_197 : decode cX3_between 197 = .ok (.lreturn, 1) := by decide +kernel
theorem dX3_between_198 : decode cX3_between 198 = .ok (.lload 9, 2) := by decide +kernel
theorem dX3_between_200 : decode cX3_between 200 = .ok (.lload 11, 2) := by decide +kernel
theorem dX3_between_202 : decode cX3_between 202 = .ok (.lcmp, 1) := by decide +kernel
theorem dX3_between_203 : decode cX3_between 203 = .ok (.ifCond .ge 8, 3) := by decide +kernel
theorem dX3_between_206 : decode cX3_between 206 = .ok (.lload 11, 2) := by decide +kernel
theorem dX3_between_208 : decode cX3_between 208 = .ok (.goto 5, 3) := by decide +kernel
theorem dX3_between_211 : decode cX3_between 211 = .ok (.lload 9, 2) := by decide +kernel
theorem dX3_between_213 : decode cX3_between 213 = .ok (.lreturn, 1) := by decide +kernel
set_option maxRecDepth 20000 in
theorem ggX3_order_X3_isThere : GoodIn wsX3_order wsX3_isThere := goodIn_r _ [6, 7, 8, 42, 43, 44, 45, 46, 47, 48] (by decide +kernel) (by decide +kernel)
set_option maxRecDepth 20000 in
theorem gX3_order_X3_isThere : GoodIn wsX3_order (wsV RX3 70 RX3 yX3_isThere wsX3_isThere) := goodIn_app (goodIn_of _ (by decide +kernel)) ggX3_order_X3_isThere
set_option maxRecDepth 20000 in
theorem ggX3_order_X3_get : GoodIn wsX3_order wsX3_get := goodIn_r _ [12, 13, 42, 43, 44, 45, 46, 47, 48] (by decide +kernel) (by decide +kernel)
set_option maxRecDepth 20000 in
theorem gX3_order_X3_get : GoodIn wsX3_order (wsV RX3 80 RX3 yX3_get wsX3_get) := goodIn_app (goodIn_of _ (by decide +kernel)) ggX3_order_X3_get
set_option maxRecDepth 20000 in
theorem ggX3_order_X3_wideBits : GoodIn wsX3_order wsX3_wideBits := goodIn_r _ [16, 17, 18, 19, 20, 21, 22, 23, 24, 25, 26, 27, 28, 29, 30, 31, 32] (by decide +kernel) (by decide +kernel)
set_option maxRecDepth 20000 in
theorem gX3_order_X3_wideBits : GoodIn wsX3_order (va_wsS RX3 135 yX3_wideBits wsX3_wideBits) := goodIn_app (goodIn_of _ (by decide +kernel)) ggX3_order_X3_wideBits
set_option maxRecDepth 20000 in
theorem ggX3_order_X3_rank : GoodIn wsX3_order wsX3_rank := goodIn_r _ [35, 36, 37, 38, 5, 39, 40, 41] (by decide +kernel) (by decide +kernel)
set_option maxRecDepth 20000 in
theorem gX3_order_X3_rank : GoodIn wsX3_order (va_wsS RX3 77 yX3_rank wsX3_rank) := goodIn_app (goodIn_of _ (by decide +kernel)) ggX3_order_X3_rank
theorem dX3_order_0 : decode cX3_order 0 = .ok (.aload_n 0, 1) := by decide +kernel
theorem dX3_order_1 : decode cX3_order 1 = .ok (.iload_n 1, 1) := by decide +kernel
theorem dX3_order_2 : decode cX3_order 2 = .ok (.invokevirtual 70, 3) := by decide +kernel
theorem dX3_order_5 : decode cX3_order 5 = .ok (.ifCond .eq 11, 3) := by decide +kernel
theorem dX3_order_8 : decode cX3_order 8 = .ok (.aload_n 0, 1) := by decide +kernel
theorem dX3_order_9 : decode cX3_order 9 = .ok (.iload_n 2, 1) := by decide +kernel
theorem dX3_order_10 : decode cX3_order 10 = .ok (.invokevirtual 70, 3) := by decide +kernel
theorem dX3_order_13 : decode cX3_order 13 = .ok (.ifCond .ne 5, 3) := by decide +kernel
theorem dX3_order_16 : decode cX3_order 16 = .ok (.iconst 0, 1) := by decide +kernel
theorem dX3_order_17 : decode cX3_order 17 = .ok (.ireturn, 1) := by decide +kernel
theorem dX3_order_18 : decode cX3_order 18 = .ok (.iconst 1, 1) := by decide +kernel
theorem dX3_order_19 : decode cX3_order 19 = .ok (.aload_n 0, 1) := by decide +kernel
theorem dX3_order_20 : decode cX3_order 20 = .ok (.getfield 7, 3) := by decide +kernel
theorem dX3_order_23 : decode cX3_order 23 = .ok (.iload_n 1, 1) := by decide +kernel
theorem dX3_order_24 : decode cX3_order 24 = .ok (.baload, 1) := by decide +kernel
theorem dX3_order_25 : decode cX3_order 25 = .ok (.aload_n 0, 1) := by decide +kernel
theorem dX3_order_26 : decode cX3_order 26 = .ok (.iload_n 1, 1) := by decide +kernel
theorem dX3_order_27 : decode cX3_order 27 = .ok (.iconst 2, 1) := by decide +kernel
theorem dX3_order_28 : decode cX3_order 28 = .ok (.invokevirtual 80, 3) := by decide +kernel
theorem dX3_order_31 : decode cX3_order 31 = .ok (.invokestatic 135, 3) := by decide +kernel
theorem dX3_order_34 : decode cX3_order 34 = .ok (.invokestatic 77, 3) := by decide +kernel
theorem dX3_order_37 : decode cX3_order 37 = .ok (.lstore_n 3, 1) := by decide +kernel
theorem dX3_order_38 : decode cX3_order 38 = .ok (.iconst 1, 1) := by decide +kernel
theorem dX3_order_39 : decode cX3_order 39 = .ok (.aload_n 0, 1) := by decide +kernel
theorem dX3_order_40 : decode cX3_order 40 = .ok (.getfield 7, 3) := by decide +kernel
theorem dX3_order_43 : decode cX3_order 43 = .ok (.iload_n 2, 1) := by decide +kernel
theorem dX3_order_44 : decode cX3_order 44 = .ok (.baload, 1) := by decide +kernel
theorem dX3_order_45 : decode cX3_order 45 = .ok (.aload_n 0, 1) := by decide +kernel
theorem dX3_order_46 : decode cX3_order 46 = .ok (.iload_n 2, 1) := by decide +kernel
theorem dX3_order_47 : decode cX3_order 47 = .ok (.iconst 2, 1) := by decide +kernel
theorem dX3_order_48 : decode cX3_order 48 = .ok (.invokevirtual 80, 3) := by decide +kernel
theorem dX3_order_51 : decode cX3_order 51 = .ok (.invokestatic 135, 3) := by decide +kernel
theorem dX3_order_54 : decode cX3_order 54 = .ok (.invokestatic 77, 3) := by decide +kernel
theorem dX3_order_57 : decode cX3_order 57 = .ok (.lstore 5, 2) := by decide +kernel
theorem dX3_order_59 : decode cX3_order 59 = .ok (.lload_n 3, 1) := by decide +kernel
theorem dX3_order_60 : decode cX3_order 60 = .ok (.lload 5, 2) := by decide +kernel
theorem dX3_order_62 : decode cX3_order 62 = .ok (.lcmp, 1) := by decide +kernel
theorem dX3_order_63 : decode cX3_order 63 = .ok (.ifCond .ge 7, 3) := by decide +kernel
theorem dX3_order_66 : decode cX3_order 66 = .ok (.iconst (-1), 1) := by decide +kernel
theorem dX3_order_67 : decode cX3_order 67 = .ok (.goto 15, 3) := by decide +kernel
theorem dX3_order_70 : decode cX3_order 70 = .ok (.lload_n 3, 1) := by decide +kernel
theorem dX3_order_71 : decode cX3_order 71 = .ok (.lload 5, 2) := by decide +kernel
theorem dX3_order_73 : decode cX3_order 73 = .ok (.lcmp, 1) := by decide +kernel
theorem dX3_order_74 : decode cX3_order 74 = .ok (.ifCond .le 7, 3) := by decide +kernel
theorem dX3_order_77 : decode cX3_order 77 = .ok (.iconst 1, 1) := by decide +kernel
theorem dX3_order_78 : decode cX3_order 78 = .ok (.goto 4, 3) := by decide +kernel
theorem dX3_order_81 : decode cX3_order 81 = .ok (.iconst 0, 1) := by decide +kernel
theorem dX3_order_82 : decode cX3_order 82 = .ok (.ireturn, 1) := by decide +kernel
set_option maxRecDepth 20000 in
theorem ggX3_back_X3_isThere : GoodIn wsX3_back wsX3_isThere := goodIn_r _ [5, 6, 7, 35, 36, 37, 38, 39, 40, 41] (by decide +kernel) (by decide +kernel)
set_option maxRecDepth 20000 in
theorem gX3_back_X3_isThere : GoodIn wsX3_back (wsV RX3 70 RX3 yX3_isThere wsX3_isThere) := goodIn_app (goodIn_of _ (by decide +kernel)) ggX3_back_X3_isThere
set_option maxRecDepth 20000 in
theorem ggX3_back_X3_fresh : GoodIn wsX3_back wsX3_fresh := goodIn_r _ [11, 12, 13, 14, 15, 4, 16, 17, 18, 19, 20, 21, 22, 23, 24, 25, 26, 27, 28, 29, 30, 31, 32, 33, 34, 35, 36, 37, 38, 39, 40, 41] (by decide +kernel) (by decide +kernel)
set_option maxRecDepth 20000 in
theorem gX3_back_X3_fresh : GoodIn wsX3_back (wsV RX3 98 RX3 yX3_fresh wsX3_fresh) := goodIn_app (goodIn_of _ (by decide +kernel)) ggX3_back_X3_fresh
theorem dX3_back_0 : decode cX3_back 0 = .ok (.aload_n 0, 1) := by decide +kernel
theorem dX3_back_1 : decode cX3_back 1 = .ok (.iload_n 1, 1) := by decide +kernel
theorem dX3_back_2 : decode cX3_back 2 = .ok (.invokevirtual 70, 3) := by decide +kernel
theorem dX3_back_5 : decode cX3_back 5 = .ok (.ifCond .eq 8, 3) := by decide +kernel
theorem dX3_back_8 : decode cX3_back 8 = .ok (.aload_n 0, 1) := by decide +kernel
theorem dX3_back_9 : decode cX3_back 9 = .ok (.iload_n 1, 1) := by decide +kernel
theorem dX3_back_10 : decode cX3_back 10 = .ok (.invokevirtual 98, 3) := by decide +kernel
theorem dX3_back_13 : decode cX3_back 13 = .ok (.return_, 1) := by decide +kernel
theorem dX3_grown_0 : decode cX3_grown 0 = .ok (.lload_n 3, 1) := by decide +kernel
theorem dX3_grown_1 : decode cX3_grown 1 = .ok (.lconst 0, 1) := by decide +kernel
theorem dX3_grown_2 : decode cX3_grown 2 = .ok (.lcmp, 1) := by decide +kernel
theorem dX3_grown_3 : decode cX3_grown 3 = .ok (.ifCond .ge 8, 3) := by decide +kernel
theorem dX3_grown_6 : decode cX3_grown 6 = .ok (.lload_n 3, 1) := by decide +kernel
theorem dX3_grown_7 : decode cX3_grown 7 = .ok (.lneg, 1) := by decide +kernel
theorem dX3_grown_8 : decode cX3_grown 8 = .ok (.goto 4, 3) := by decide +kernel
theorem dX3_grown_11 : decode cX3_grown 11 = .ok (.lload_n 3, 1) := by decide +kernel
theorem dX3_grown_12 : decode cX3_grown 12 = .ok (.lstore 5, 2) := by decide +kernel
theorem dX3_grown_14 : decode cX3_grown 14 = .ok (.iload_n 0, 1) := by decide +kernel
theorem dX3_grown_15 : decode cX3_grown 15 = .ok (.tableswitch 58 0 3 #[29, 31, 43, 55], 29) := by decide +kernel
theorem dX3_grown_44 : decode cX3_grown 44 = .ok (.lload_n 3, 1) := by decide +kernel
theorem dX3_grown_45 : decode cX3_grown 45 = .ok (.lreturn, 1) := by decide +kernel
theorem dX3_grown_46 : decode cX3_grown 46 = .ok (.lload_n 1, 1) := by decide +kernel
theorem dX3_grown_47 : decode cX3_grown 47 = .ok (.lload_n 3, 1) := by decide +kernel
theorem dX3_grown_48 : decode cX3_grown 48 = .ok (.lcmp, 1) := by decide +kernel
theorem dX3_grown_49 : decode cX3_grown 49 = .ok (.ifCond .le 7, 3) := by decide +kernel
theorem dX3_grown_52 : decode cX3_grown 52 = .ok (.lload_n 1, 1) := by decide +kernel
theorem dX3_grown_53 : decode cX3_grown 53 = .ok (.goto 4, 3) := by decide +kernel
theorem dX3_grown_56 : decode cX3_grown 56 = .ok (.lload_n 3, 1) := by decide +kernel
theorem dX3_grown_57 : decode cX3_grown 57 = .ok (.lreturn, 1) := by decide +kernel
theorem dX3_grown_58 : decode cX3_grown 58 = .ok (.lload_n 1, 1) := by decide +kernel
theorem dX3_grown_59 : decode cX3_grown 59 = .ok (.lload_n 3, 1) := by decide +kernel
theorem dX3_grown_60 : decode cX3_grown 60 = .ok (.lcmp, 1) := by decide +kernel
theorem dX3_grown_61 : decode cX3_grown 61 = .ok (.ifCond .ge 7, 3) := by decide +kernel
theorem dX3_grown_64 : decode cX3_grown 64 = .ok (.lload_n 1, 1) := by decide +kernel
theorem dX3_grown_65 : decode cX3_grown 65 = .ok (.goto 4, 3) := by decide +kernel
theorem dX3_grown_68 : decode cX3_grown 68 = .ok (.lload_n 3, 1) := by decide +kernel
theorem dX3_grown_69 : decode cX3_grown 69 = .ok (.lreturn, 1) := by decide +kernel
theorem dX3_grown_70 : decode cX3_grown 70 = .ok (.lload 5, 2) := by decide +kernel
theorem dX3_grown_72 : decode cX3_grown 72 = .ok (.lreturn, 1) := by decide +kernel
theorem dX3_grown_73 : decode cX3_grown 73 = .ok (.lload_n 1, 1) := by decide +kernel
theorem dX3_grown_74 : decode cX3_grown 74 = .ok (.lconst 0, 1) := by decide +kernel
theorem dX3_grown_75 : decode cX3_grown 75 = .ok (.lcmp, 1) := by decide +kernel
theorem dX3_grown_76 : decode cX3_grown 76 = .ok (.ifCond .ge 8, 3) := by decide +kernel
theorem dX3_grown_79 : decode cX3_grown 79 = .ok (.lload_n 1, 1) := by decide +kernel
theorem dX3_grown_80 : decode cX3_grown 80 = .ok (.lneg, 1) := by decide +kernel
theorem dX3_grown_81 : decode cX3_grown 81 = .ok (.goto 4, 3) := by decide +kernel
theorem dX3_grown_84 : decode cX3_grown 84 = .ok (.lload_n 1, 1) := by decide +kernel
theorem dX3_grown_85 : decode cX3_grown 85 = .ok (.lload 5, 2) := by decide +kernel
theorem dX3_grown_87 : decode cX3_grown 87 = .ok (.lsub, 1) := by decide +kernel
theorem dX3_grown_88 : decode cX3_grown 88 = .ok (.lreturn, 1) := by decide +kernel
set_option maxRecDepth 20000 in
theorem ggX3_tally_X3_grown : GoodIn wsX3_tally wsX3_grown := goodIn_r _ [7] (by decide +kernel) (by decide +kernel)
set_option maxRecDepth 20000 in
theorem gX3_tally_X3_grown : GoodIn wsX3_tally (va_wsS RX3 142 yX3_grown wsX3_grown) := goodIn_app (goodIn_of _ (by decide +kernel)) ggX3_tally_X3_grown
theorem dX3_tally_0 : decode cX3_tally 0 = .ok (.aload_n 0, 1) := by decide +kernel
theorem dX3_tally_1 : decode cX3_tally 1 = .ok (.iload_n 2, 1) := by decide +kernel
theorem dX3_tally_2 : decode cX3_tally 2 = .ok (.ifCond .lt 8, 3) := by decide +kernel
theorem dX3_tally_5 : decode cX3_tally 5 = .ok (.iload_n 2, 1) := by decide +kernel
theorem dX3_tally_6 : decode cX3_tally 6 = .ok (.iconst 4, 1) := by decide +kernel
theorem dX3_tally_7 : decode cX3_tally 7 = .ok (.if_icmp .le 7, 3) := by decide +kernel
theorem dX3_tally_10 : decode cX3_tally 10 = .ok (.iconst 1, 1) := by decide +kernel
theorem dX3_tally_11 : decode cX3_tally 11 = .ok (.goto 4, 3) := by decide +kernel
theorem dX3_tally_14 : decode cX3_tally 14 = .ok (.iconst 0, 1) := by decide +kernel
theorem dX3_tally_15 : decode cX3_tally 15 = .ok (.putfield 17, 3) := by decide +kernel
theorem dX3_tally_18 : decode cX3_tally 18 = .ok (.aload_n 0, 1) := by decide +kernel
theorem dX3_tally_19 : decode cX3_tally 19 = .ok (.getfield 17, 3) := by decide +kernel
theorem dX3_tally_22 : decode cX3_tally 22 = .ok (.ifCond .le 5, 3) := by decide +kernel
theorem dX3_tally_25 : decode cX3_tally 25 = .ok (.lconst 0, 1) := by decide +kernel
theorem dX3_tally_26 : decode cX3_tally 26 = .ok (.lreturn, 1) := by decide +kernel
theorem dX3_tally_27 : decode cX3_tally 27 = .ok (.iload_n 1, 1) := by decide +kernel
theorem dX3_tally_28 : decode cX3_tally 28 = .ok (.ifCond .eq 21, 3) := by decide +kernel
theorem dX3_tally_31 : decode cX3_tally 31 = .ok (.aload_n 0, 1) := by decide +kernel
theorem dX3_tally_32 : decode cX3_tally 32 = .ok (.iload_n 2, 1) := by decide +kernel
theorem dX3_tally_33 : decode cX3_tally 33 = .ok (.aload_n 0, 1) := by decide +kernel
theorem dX3_tally_34 : decode cX3_tally 34 = .ok (.getfield 138, 3) := by decide +kernel
theorem dX3_tally_37 : decode cX3_tally 37 = .ok (.lload_n 3, 1) := by decide +kernel
theorem dX3_tally_38 : decode cX3_tally 38 = .ok (.invokestatic 142, 3) := by decide +kernel
theorem dX3_tally_41 : decode cX3_tally 41 = .ok (.putfield 138, 3) := by decide +kernel
theorem dX3_tally_44 : decode cX3_tally 44 = .ok (.aload_n 0, 1) := by decide +kernel
theorem dX3_tally_45 : decode cX3_tally 45 = .ok (.getfield 138, 3) := by decide +kernel
theorem dX3_tally_48 : decode cX3_tally 48 = .ok (.lreturn, 1) := by decide +kernel
theorem dX3_tally_49 : decode cX3_tally 49 = .ok (.aload_n 0, 1) := by decide +kernel
theorem dX3_tally_50 : decode cX3_tally 50 = .ok (.iload_n 2, 1) := by decide +kernel
theorem dX3_tally_51 : decode cX3_tally 51 = .ok (.aload_n 0, 1) := by decide +kernel
theorem dX3_tally_52 : decode cX3_tally 52 = .ok (.getfield 146, 3) := by decide +kernel
theorem dX3_tally_55 : decode cX3_tally 55 = .ok (.i2l, 1) := by decide +kernel
theorem dX3_tally_56 : decode cX3_tally 56 = .ok (.lload_n 3, 1) := by decide +kernel
theorem dX3_tally_57 : decode cX3_tally 57 = .ok (.l2i, 1) := by decide +kernel
theorem dX3_tally_58 : decode cX3_tally 58 = .ok (.i2l, 1) := by decide +kernel
theorem dX3_tally_59 : decode cX3_tally 59 = .ok (.invokestatic 142, 3) := by decide +kernel
theorem dX3_tally_62 : decode cX3_tally 62 = .ok (.l2i, 1) := by decide +kernel
theorem dX3_tally_63 : decode cX3_tally 63 = .ok (.putfield 146, 3) := by decide +kernel
theorem dX3_tally_66 : decode cX3_tally 66 = .ok (.aload_n 0, 1) := by decide +kernel
theorem dX3_tally_67 : decode cX3_tally 67 = .ok (.getfield 146, 3) := by decide +kernel
theorem dX3_tally_70 : decode cX3_tally 70 = .ok (.i2l, 1) := by decide +kernel
theorem dX3_tally_71 : decode cX3_tally 71 = .ok (.lreturn, 1) := by decide +kernel
set_option maxRecDepth 20000 in
theorem ggX3_count_X3_get : GoodIn wsX3_count wsX3_get := goodIn_r _ [9, 10, 19, 20, 21, 22, 23, 24, 25] (by decide +kernel) (by decide +kernel)
set_option maxRecDepth 20000 in
theorem gX3_count_X3_get : GoodIn wsX3_count (wsV RX3 80 RX3 yX3_get wsX3_get) := goodIn_app (goodIn_of _ (by decide +kernel)) ggX3_count_X3_get
set_option maxRecDepth 20000 in
theorem ggX3_count_X3_isNought : GoodIn wsX3_count wsX3_isNought := goodIn_r _ [13, 14, 15, 8, 16, 17, 18] (by decide +kernel) (by decide +kernel)
set_option maxRecDepth 20000 in
theorem gX3_count_X3_isNought : GoodIn wsX3_count (va_wsS RX3 63 yX3_isNought wsX3_isNought) := goodIn_app (goodIn_of _ (by decide +kernel)) ggX3_count_X3_isNought
theorem dX3_count_0 : decode cX3_count 0 = .ok (.aload_n 0, 1) := by decide +kernel
theorem dX3_count_1 : decode cX3_count 1 = .ok (.iconst 0, 1) := by decide +kernel
theorem dX3_count_2 : decode cX3_count 2 = .ok (.putfield 17, 3) := by decide +kernel
theorem dX3_count_5 : decode cX3_count 5 = .ok (.iload_n 1, 1) := by decide +kernel
theorem dX3_count_6 : decode cX3_count 6 = .ok (.ifCond .ne 8, 3) := by decide +kernel
theorem dX3_count_9 : decode cX3_count 9 = .ok (.aload_n 0, 1) := by decide +kernel
theorem dX3_count_10 : decode cX3_count 10 = .ok (.getfield 67, 3) := by decide +kernel
theorem dX3_count_13 : decode cX3_count 13 = .ok (.ireturn, 1) := by decide +kernel
theorem dX3_count_14 : decode cX3_count 14 = .ok (.iload_n 1, 1) := by decide +kernel
theorem dX3_count_15 : decode cX3_count 15 = .ok (.iconst 4, 1) := by decide +kernel
theorem dX3_count_16 : decode cX3_count 16 = .ok (.if_icmp .ne 8, 3) := by decide +kernel
theorem dX3_count_19 : decode cX3_count 19 = .ok (.aload_n 0, 1) := by decide +kernel
theorem dX3_count_20 : decode cX3_count 20 = .ok (.getfield 92, 3) := by decide +kernel
theorem dX3_count_23 : decode cX3_count 23 = .ok (.ireturn, 1) := by decide +kernel
theorem dX3_count_24 : decode cX3_count 24 = .ok (.iload_n 1, 1) := by decide +kernel
theorem dX3_count_25 : decode cX3_count 25 = .ok (.iconst 1, 1) := by decide +kernel
theorem dX3_count_26 : decode cX3_count 26 = .ok (.if_icmp .lt 8, 3) := by decide +kernel
theorem dX3_count_29 : decode cX3_count 29 = .ok (.iload_n 1, 1) := by decide +kernel
theorem dX3_count_30 : decode cX3_count 30 = .ok (.iconst 3, 1) := by decide +kernel
theorem dX3_count_31 : decode cX3_count 31 = .ok (.if_icmp .le 5, 3) := by decide +kernel
theorem dX3_count_34 : decode cX3_count 34 = .ok (.iconst (-1), 1) := by decide +kernel
theorem dX3_count_35 : decode cX3_count 35 = .ok (.ireturn, 1) := by decide +kernel
theorem dX3_count_36 : decode cX3_count 36 = .ok (.iconst 0, 1) := by decide +kernel
theorem dX3_count_37 : decode cX3_count 37 = .ok (.istore_n 2, 1) := by decide +kernel
theorem dX3_count_38 : decode cX3_count 38 = .ok (.iconst 0, 1) := by decide +kernel
theorem dX3_count_39 : decode cX3_count 39 = .ok (.istore_n 3, 1) := by decide +kernel
theorem dX3_count_40 : decode cX3_count 40 = .ok (.iload_n 3, 1) := by decide +kernel
theorem dX3_count_41 : decode cX3_count 41 = .ok (.aload_n 0, 1) := by decide +kernel
theorem dX3_count_42 : decode cX3_count 42 = .ok (.getfield 67, 3) := by decide +kernel
theorem dX3_count_45 : decode cX3_count 45 = .ok (.if_icmp .ge 94, 3) := by decide +kernel
theorem dX3_count_48 : decode cX3_count 48 = .ok (.aload_n 0, 1) := by decide +kernel
theorem dX3_count_49 : decode cX3_count 49 = .ok (.iload_n 3, 1) := by decide +kernel
theorem dX3_count_50 : decode cX3_count 50 = .ok (.iconst 2, 1) := by decide +kernel
theorem dX3_count_51 : decode cX3_count 51 = .ok (.invokevirtual 80, 3) := by decide +kernel
theorem dX3_count_54 : decode cX3_count 54 = .ok (.lstore 4, 2) := by decide +kernel
theorem dX3_count_56 : decode cX3_count 56 = .ok (.iload_n 1, 1) := by decide +kernel
theorem dX3_count_57 : decode cX3_count 57 = .ok (.iconst 1, 1) := by decide +kernel
theorem dX3_count_58 : decode cX3_count 58 = .ok (.if_icmp .ne 12, 3) := by decide +kernel
theorem dX3_count_61 : decode cX3_count 61 = .ok (.aload_n 0, 1) := by decide +kernel
theorem dX3_count_62 : decode cX3_count 62 = .ok (.getfield 7, 3) := by decide +kernel
theorem dX3_count_65 : decode cX3_count 65 = .ok (.iload_n 3, 1) := by decide +kernel
theorem dX3_count_66 : decode cX3_count 66 = .ok (.baload, 1) := by decide +kernel
theorem dX3_count_67 : decode cX3_count 67 = .ok (.goto 51, 3) := by decide +kernel
theorem dX3_count_70 : decode cX3_count 70 = .ok (.iload_n 1, 1) := by decide +kernel
theorem dX3_count_71 : decode cX3_count 71 = .ok (.iconst 2, 1) := by decide +kernel
theorem dX3_count_72 : decode cX3_count 72 = .ok (.if_icmp .ne 17, 3) := by decide +kernel
theorem dX3_count_75 : decode cX3_count 75 = .ok (.aload_n 0, 1) := by decide +kernel
theorem dX3_count_76 : decode cX3_count 76 = .ok (.getfield 7, 3) := by decide +kernel
theorem dX3_count_79 : decode cX3_count 79 = .ok (.iload_n 3, 1) := by decide +kernel
theorem dX3_count_80 : decode cX3_count 80 = .ok (.baload, 1) := by decide +kernel
theorem dX3_count_81 : decode cX3_count 81 = .ok (.lload 4, 2) := by decide +kernel
theorem dX3_count_83 : decode cX3_count 83 = .ok (.invokestatic 63, 3) := by decide +kernel
theorem dX3_count_86 : decode cX3_count 86 = .ok (.goto 32, 3) := by decide +kernel
theorem dX3_count_89 : decode cX3_count 89 = .ok (.lload 4, 2) := by decide +kernel
theorem dX3_count_91 : decode cX3_count 91 = .ok (.aload_n 0, 1) := by decide +kernel
theorem dX3_count_92 : decode cX3_count 92 = .ok (.iload_n 3, 1) := by decide +kernel
theorem dX3_count_93 : decode cX3_count 93 = .ok (.iconst 0, 1) := by decide +kernel
theorem dX3_count_94 : decode cX3_count 94 = .ok (.invokevirtual 80, 3) := by decide +kernel
theorem dX3_count_97 : decode cX3_count 97 = .ok (.lcmp, 1) := by decide +kernel
theorem dX3_count_98 : decode cX3_count 98 = .ok (.ifCond .eq 15, 3) := by decide +kernel
theorem dX3_count_101 : decode cX3_count 101 = .ok (.lload 4, 2) := by decide +kernel
theorem dX3_count_103 : decode cX3_count 103 = .ok (.aload_n 0, 1) := by decide +kernel
theorem dX3_count_104 : decode cX3_count 104 = .ok (.iload_n 3, 1) := by decide +kernel
theorem dX3_count_105 : decode cX3_count 105 = .ok (.iconst 1, 1) := by decide +kernel
theorem dX3_count_106 : decode cX3_count 106 = .ok (.invokevirtual 80, 3) := by decide +kernel
theorem dX3_count_109 : decode cX3_count 109 = .ok (.lcmp, 1) := by decide +kernel
theorem dX3_count_110 : decode cX3_count 110 = .ok (.ifCond .ne 7, 3) := by decide +kernel
theorem dX3_count_113 : decode cX3_count 113 = .ok (.iconst 1, 1) := by decide +kernel
theorem dX3_count_114 : decode cX3_count 114 = .ok (.goto 4, 3) := by decide +kernel
theorem dX3_count_117 : decode cX3_count 117 = .ok (.iconst 0, 1) := by decide +kernel
theorem dX3_count_118 : decode cX3_count 118 = .ok (.istore 6, 2) := by decide +kernel
theorem dX3_count_120 : decode cX3_count 120 = .ok (.iload_n 2, 1) := by decide +kernel
theorem dX3_count_121 : decode cX3_count 121 = .ok (.iload 6, 2) := by decide +kernel
theorem dX3_count_123 : decode cX3_count 123 = .ok (.ifCond .eq 7, 3) := by decide +kernel
theorem dX3_count_126 : decode cX3_count 126 = .ok (.iconst 1, 1) := by decide +kernel
theorem dX3_count_127 : decode cX3_count 127 = .ok (.goto 4, 3) := by decide +kernel
theorem dX3_count_130 : decode cX3_count 130 = .ok (.iconst 0, 1) := by decide +kernel
theorem dX3_count_131 : decode cX3_count 131 = .ok (.iadd, 1) := by decide +kernel
theorem dX3_count_132 : decode cX3_count 132 = .ok (.istore_n 2, 1) := by decide +kernel
theorem dX3_count_133 : decode cX3_count 133 = .ok (.iinc 3 1, 3) := by decide +kernel
theorem dX3_count_136 : decode cX3_count 136 = .ok (.goto (-96), 3) := by decide +kernel
theorem dX3_count_139 : decode cX3_count 139 = .ok (.iload_n 2, 1) := by decide +kernel
theorem dX3_count_140 : decode cX3_count 140 = .ok (.ireturn, 1) := by decide +kernel
theorem dJxe99ae_isNaN_b9ae7_0 : decode cJxe99ae_isNaN_b9ae7 0 = .ok (.dload_n 0, 1) := by decide +kernel
theorem dJxe99ae_isNaN_b9ae7_1 : decode cJxe99ae_isNaN_b9ae7 1 = .ok (.dload_n 0, 1) := by decide +kernel
theorem dJxe99ae_isNaN_b9ae7_2 : decode cJxe99ae_isNaN_b9ae7 2 = .ok (.dcmp .l, 1) := by decide +kernel
theorem dJxe99ae_isNaN_b9ae7_3 : decode cJxe99ae_isNaN_b9ae7 3 = .ok (.ifCond .eq 7, 3) := by decide +kernel
theorem dJxe99ae_isNaN_b9ae7_6 : decode cJxe99ae_isNaN_b9ae7 6 = .ok (.iconst 1, 1) := by decide +kernel
theorem dJxe99ae_isNaN_b9ae7_7 : decode cJxe99ae_isNaN_b9ae7 7 = .ok (.goto 4, 3) := by decide +kernel
theorem dJxe99ae_isNaN_b9ae7_10 : decode cJxe99ae_isNaN_b9ae7 10 = .ok (.iconst 0, 1) := by decide +kernel
theorem dJxe99ae_isNaN_b9ae7_11 : decode cJxe99ae_isNaN_b9ae7 11 = .ok (.ireturn, 1) := by decide +kernel
set_option maxRecDepth 20000 in
theorem ggJxe99ae_doubleToLongBits_ccdee_Jxe99ae_isNaN_b9ae7 : GoodIn wsJxe99ae_doubleToLongBits_ccdee wsJxe99ae_isNaN_b9ae7 := goodIn_r _ [9] (by decide +kernel) (by decide +kernel)
set_option maxRecDepth 20000 in
theorem gJxe99ae_doubleToLongBits_ccdee_Jxe99ae_isNaN_b9ae7 : GoodIn wsJxe99ae_doubleToLongBits_ccdee (va_wsS RJxe99ae 122 yJxe99ae_isNaN_b9ae7 wsJxe99ae_isNaN_b9ae7) := goodIn_app (goodIn_of _ (by decide +kernel)) ggJxe99ae_doubleToLongBits_ccdee_Jxe99ae_isNaN_b9ae7
theorem dJxe99ae_doubleToLongBits_ccdee_0 : decode cJxe99ae_doubleToLongBits_ccdee 0 = .ok (.dload_n 0, 1) := by decide +kernel
theorem dJxe99ae_doubleToLongBits_ccdee_1 : decode cJxe99ae_doubleToLongBits_ccdee 1 = .ok (.invokestatic 122, 3) := by decide +kernel
theorem dJxe99ae_doubleToLongBits_ccdee_4 : decode cJxe99ae_doubleToLongBits_ccdee 4 = .ok (.ifCond .ne 8, 3) := by decide +kernel
theorem dJxe99ae_doubleToLongBits_ccdee_7 : decode cJxe99ae_doubleToLongBits_ccdee 7 = .ok (.dload_n 0, 1) := by decide +kernel
theorem dJxe99ae_doubleToLongBits_ccdee_8 : decode cJxe99ae_doubleToLongBits_ccdee 8 = .ok (.invokestatic 134, 3) := by decide +kernel
theorem dJxe99ae_doubleToLongBits_ccdee_11 : decode cJxe99ae_doubleToLongBits_ccdee 11 = .ok (.lreturn, 1) := by decide +kernel
theorem dJxe99ae_doubleToLongBits_ccdee_12 : decode cJxe99ae_doubleToLongBits_ccdee 12 = .ok (.ldc2_w 137, 3) := by decide +kernel
theorem dJxe99ae_doubleToLongBits_ccdee_15 : decode cJxe99ae_doubleToLongBits_ccdee 15 = .ok (.lreturn, 1) := by decide +kernel
theorem dJxf58ca_isNaN_12338_0 : decode cJxf58ca_isNaN_12338 0 = .ok (.fload_n 0, 1) := by decide +kernel
theorem dJxf58ca_isNaN_12338_1 : decode cJxf58ca_isNaN_12338 1 = .ok (.fload_n 0, 1) := by decide +kernel
theorem dJxf58ca_isNaN_12338_2 : decode cJxf58ca_isNaN_12338 2 = .ok (.fcmp .l, 1) := by decide +kernel
theorem dJxf58ca_isNaN_12338_3 : decode cJxf58ca_isNaN_12338 3 = .ok (.ifCond .eq 7, 3) := by decide +kernel
theorem dJxf58ca_isNaN_12338_6 : decode cJxf58ca_isNaN_12338 6 = .ok (.iconst 1, 1) := by decide +kernel
theorem dJxf58ca_isNaN_12338_7 : decode cJxf58ca_isNaN_12338 7 = .ok (.goto 4, 3) := by decide +kernel
theorem dJxf58ca_isNaN_12338_10 : decode cJxf58ca_isNaN_12338 10 = .ok (.iconst 0, 1) := by decide +kernel
theorem dJxf58ca_isNaN_12338_11 : decode cJxf58ca_isNaN_12338 11 = .ok (.ireturn, 1) := by decide +kernel
set_option maxRecDepth 20000 in
theorem ggJxf58ca_floatToIntBits_5c35a_Jxf58ca_isNaN_12338 : GoodIn wsJxf58ca_floatToIntBits_5c35a wsJxf58ca_isNaN_12338 := goodIn_r _ [9] (by decide +kernel) (by decide +kernel)
set_option maxRecDepth 20000 in
theorem gJxf58ca_floatToIntBits_5c35a_Jxf58ca_isNaN_12338 : GoodIn wsJxf58ca_floatToIntBits_5c35a (va_wsS RJxf58ca 59 yJxf58ca_isNaN_12338 wsJxf58ca_isNaN_12338) := goodIn_app (goodIn_of _ (by decide +kernel)) ggJxf58ca_floatToIntBits_5c35a_Jxf58ca_isNaN_12338
theorem dJxf58ca_floatToIntBits_5c35a_0 : decode cJxf58ca_floatToIntBits_5c35a 0 = .ok (.fload_n 0, 1) := by decide +kernel
theorem dJxf58ca_floatToIntBits_5c35a_1 : decode cJxf58ca_floatToIntBits_5c35a 1 = .ok (.invokestatic 59, 3) := by decide +kernel
theorem dJxf58ca_floatToIntBits_5c35a_4 : decode cJxf58ca_floatToIntBits_5c35a 4 = .ok (.ifCond .ne 8, 3) := by decide +kernel
theorem dJxf58ca_floatToIntBits_5c35a_7 : decode cJxf58ca_floatToIntBits_5c35a 7 = .ok (.fload_n 0, 1) := by decide +kernel
theorem dJxf58ca_floatToIntBits_5c35a_8 : decode cJxf58ca_floatToIntBits_5c35a 8 = .ok (.invokestatic 74, 3) := by decide +kernel
theorem dJxf58ca_floatToIntBits_5c35a_11 : decode cJxf58ca_floatToIntBits_5c35a 11 = .ok (.ireturn, 1) := by decide +kernel
theorem dJxf58ca_floatToIntBits_5c35a_12 : decode cJxf58ca_floatToIntBits_5c35a 12 = .ok (.ldc 77, 2) := by decide +kernel
theorem dJxf58ca_floatToIntBits_5c35a_14 : decode cJxf58ca_floatToIntBits_5c35a 14 = .ok (.ireturn, 1) := by decide +kernel
theorem dJ9_abs_067f4_0 : decode cJ9_abs_067f4 0 = .ok (.lload_n 0, 1) := by decide +kernel
theorem dJ9_abs_067f4_1 : decode cJ9_abs_067f4 1 = .ok (.lconst 0, 1) := by decide +kernel
theorem dJ9_abs_067f4_2 : decode cJ9_abs_067f4 2 = .ok (.lcmp, 1) := by decide +kernel
theorem dJ9_abs_067f4_3 : decode cJ9_abs_067f4 3 = .ok (.ifCond .ge 8, 3) := by decide +kernel
theorem dJ9_abs_067f4_6 : decode cJ9_abs_067f4 6 = .ok (.lload_n 0, 1) := by decide +kernel
theorem dJ9_abs_067f4_7 : decode cJ9_abs_067f4 7 = .ok (.lneg, 1) := by decide +kernel
theorem dJ9_abs_067f4_8 : decode cJ9_abs_067f4 8 = .ok (.goto 4, 3) := by decide +kernel
theorem dJ9_abs_067f4_11 : decode cJ9_abs_067f4 11 = .ok (.lload_n 0, 1) := by decide +kernel
theorem dJ9_abs_067f4_12 : decode cJ9_abs_067f4 12 = .ok (.lreturn, 1) := by decide +kernel
theorem dJ9_max_7cf53_0 : decode cJ9_max_7cf53 0 = .ok (.iload_n 0, 1) := by decide +kernel
theorem dJ9_max_7cf53_1 : decode cJ9_max_7cf53 1 = .ok (.iload_n 1, 1) := by decide +kernel
theorem dJ9_max_7cf53_2 : decode cJ9_max_7cf53 2 = .ok (.if_icmp .lt 7, 3) := by decide +kernel
theorem dJ9_max_7cf53_5 : decode cJ9_max_7cf53 5 = .ok (.iload_n 0, 1) := by decide +kernel
theorem dJ9_max_7cf53_6 : decode cJ9_max_7cf53 6 = .ok (.goto 4, 3) := by decide +kernel
theorem dJ9_max_7cf53_9 : decode cJ9_max_7cf53 9 = .ok (.iload_n 1, 1) := by decide +kernel
theorem dJ9_max_7cf53_10 : decode cJ9_max_7cf53 10 = .ok (.ireturn, 1) := by decide +kernel
theorem dJ9_max_f86c9_0 : decode cJ9_max_f86c9 0 = .ok (.lload_n 0, 1) := by decide +kernel
theorem dJ9_max_f86c9_1 : decode cJ9_max_f86c9 1 = .ok (.lload_n 2, 1) := by decide +kernel
theorem dJ9_max_f86c9_2 : decode cJ9_max_f86c9 2 = .ok (.lcmp, 1) := by decide +kernel
theorem dJ9_max_f86c9_3 : decode cJ9_max_f86c9 3 = .ok (.ifCond .lt 7, 3) := by decide +kernel
theorem dJ9_max_f86c9_6 : decode cJ9_max_f86c9 6 = .ok (.lload_n 0, 1) := by decide +kernel
theorem dJ9_max_f86c9_7 : decode cJ9_max_f86c9 7 = .ok (.goto 4, 3) := by decide +kernel
theorem dJ9_max_f86c9_10 : decode cJ9_max_f86c9 10 = .ok (.lload_n 2, 1) := by decide +kernel
theorem dJ9_max_f86c9_11 : decode cJ9_max_f86c9 11 = .ok (.lreturn, 1) := by decide +kernel
theorem dJ9_min_f86c9_0 : decode cJ9_min_f86c9 0 = .ok (.lload_n 0, 1) := by decide +kernel
theorem dJ9_min_f86c9_1 : decode cJ9_min_f86c9 1 = .ok (.lload_n 2, 1) := by decide +kernel
theorem dJ9_min_f86c9_2 : decode cJ9_min_f86c9 2 = .ok (.lcmp, 1) := by decide +kernel
theorem dJ9_min_f86c9_3 : decode cJ9_min_f86c9 3 = .ok (.ifCond .gt 7, 3) := by decide +kernel
theorem dJ9_min_f86c9_6 : decode cJ9_min_f86c9 6 = .ok (.lload_n 0, 1) := by decide +kernel
theorem dJ9_min_f86c9_7 : decode cJ9_min_f86c9 7 = .ok (.goto 4, 3) := by decide +kernel
theorem dJ9_min_f86c9_10 : decode cJ9_min_f86c9 10 = .ok (.lload_n 2, 1) := by decide +kernel
theorem dJ9_min_f86c9_11 : decode cJ9_min_f86c9 11 = .ok (.lreturn, 1) := by decide +kernel
set_option maxRecDepth 20000 in
theorem ggL_needle_X2_needle : GoodIn wsL_needle wsX2_needle := goodIn_ca (goodIn_ca (goodIn_r _ [7, 8, 9, 10, 11, 12, 13, 14, 15, 16, 17, 18, 19, 20, 6, 21, 22, 23, 24, 25, 26, 27, 28, 29, 30, 31, 32, 33, 34, 35, 36, 37, 38, 39, 40, 41, 42, 43, 44, 45, 46, 47, 48, 49, 50, 51, 52, 53, 54, 55, 56, 57, 58, 59, 60, 61, 62, 63, 64, 65, 66, 67, 68, 69, 70, 71, 72, 73, 74, 75, 76, 77, 78, 79, 80, 81, 82, 83, 84, 85, 86, 87, 88, 89, 90, 91, 92] (by decide +kernel) (by decide +kernel)) (goodIn_sub (fun _ h => List.mem_cons_of_mem _ (List.mem_append_left _ (List.mem_append_right _ h))) (by decide +kernel))) (goodIn_sub (fun _ h => List.mem_cons_of_mem _ (List.mem_append_right _ h)) (by decide +kernel))
set_option maxRecDepth 20000 in
theorem gL_needle_X2_needle : GoodIn wsL_needle (wsV RL 7 RX2 yX2_needle wsX2_needle) := goodIn_app (goodIn_of _ (by decide +kernel)) ggL_needle_X2_needle
theorem dL_needle_0 : decode cL_needle 0 = .ok (.aload 6, 2) := by decide +kernel
theorem dL_needle_2 : decode cL_needle 2 = .ok (.iconst 0, 1) := by decide +kernel
theorem dL_needle_3 : decode cL_needle 3 = .ok (.aload_n 0, 1) := by decide +kernel
theorem dL_needle_4 : decode cL_needle 4 = .ok (.iload_n 1, 1) := by decide +kernel
theorem dL_needle_5 : decode cL_needle 5 = .ok (.lload_n 2, 1) := by decide +kernel
theorem dL_needle_6 : decode cL_needle 6 = .ok (.lload 4, 2) := by decide +kernel
theorem dL_needle_8 : decode cL_needle 8 = .ok (.invokevirtual 7, 3) := by decide +kernel
theorem dL_needle_11 : decode cL_needle 11 = .ok (.i2l, 1) := by decide +kernel
theorem dL_needle_12 : decode cL_needle 12 = .ok (.lastore, 1) := by decide +kernel
theorem dL_needle_13 : decode cL_needle 13 = .ok (.goto 11, 3) := by decide +kernel
theorem dL_needle_16 : decode cL_needle 16 = .ok (.astore 7, 2) := by decide +kernel
theorem dL_needle_18 : decode cL_needle 18 = .ok (.iconst 1, 1) := by decide +kernel
theorem dL_needle_19 : decode cL_needle 19 = .ok (.ireturn, 1) := by decide +kernel
theorem dL_needle_20 : decode cL_needle 20 = .ok (.astore 7, 2) := by decide +kernel
theorem dL_needle_22 : decode cL_needle 22 = .ok (.iconst 2, 1) := by decide +kernel
theorem dL_needle_23 : decode cL_needle 23 = .ok (.ireturn, 1) := by decide +kernel
theorem dL_needle_24 : decode cL_needle 24 = .ok (.iconst 0, 1) := by decide +kernel
theorem dL_needle_25 : decode cL_needle 25 = .ok (.ireturn, 1) := by decide +kernel
set_option maxRecDepth 20000 in
theorem ggL_put_X2_put : GoodIn wsL_put wsX2_put := goodIn_ca (goodIn_ca (goodIn_r _ [7, 8, 9, 10, 11, 12, 13, 6, 14, 15, 16, 17, 18, 19, 20, 21, 22, 23, 24, 25, 26, 27, 28, 29, 30, 31, 32, 33, 34, 35, 36, 37, 38, 39, 40, 41, 42, 43, 44, 45, 46, 47, 48, 49, 50, 51, 52, 53, 54, 55, 56, 57, 58, 59, 60, 61, 62, 63, 64, 65, 66, 67, 68, 69, 70, 71, 72, 73, 74, 75, 76, 77, 78, 79, 80, 81, 82, 83, 84, 85, 86, 87, 88, 89] (by decide +kernel) (by decide +kernel)) (goodIn_sub (fun _ h => List.mem_cons_of_mem _ (List.mem_append_left _ (List.mem_append_right _ h))) (by decide +kernel))) (goodIn_sub (fun _ h => List.mem_cons_of_mem _ (List.mem_append_right _ h)) (by decide +kernel))
set_option maxRecDepth 20000 in
theorem gL_put_X2_put : GoodIn wsL_put (wsV RL 17 RX2 yX2_put wsX2_put) := goodIn_app (goodIn_of _ (by decide +kernel)) ggL_put_X2_put
theorem dL_put_0 : decode cL_put 0 = .ok (.aload 4, 2) := by decide +kernel
theorem dL_put_2 : decode cL_put 2 = .ok (.iconst 0, 1) := by decide +kernel
theorem dL_put_3 : decode cL_put 3 = .ok (.aload_n 0, 1) := by decide +kernel
theorem dL_put_4 : decode cL_put 4 = .ok (.iload_n 1, 1) := by decide +kernel
theorem dL_put_5 : decode cL_put 5 = .ok (.lload_n 2, 1) := by decide +kernel
theorem dL_put_6 : decode cL_put 6 = .ok (.invokevirtual 17, 3) := by decide +kernel
theorem dL_put_9 : decode cL_put 9 = .ok (.lastore, 1) := by decide +kernel
theorem dL_put_10 : decode cL_put 10 = .ok (.goto 11, 3) := by decide +kernel
theorem dL_put_13 : decode cL_put 13 = .ok (.astore 5, 2) := by decide +kernel
theorem dL_put_15 : decode cL_put 15 = .ok (.iconst 1, 1) := by decide +kernel
theorem dL_put_16 : decode cL_put 16 = .ok (.ireturn, 1) := by decide +kernel
theorem dL_put_17 : decode cL_put 17 = .ok (.astore 5, 2) := by decide +kernel
theorem dL_put_19 : decode cL_put 19 = .ok (.iconst 2, 1) := by decide +kernel
theorem dL_put_20 : decode cL_put 20 = .ok (.ireturn, 1) := by decide +kernel
theorem dL_put_21 : decode cL_put 21 = .ok (.iconst 0, 1) := by decide +kernel
theorem dL_put_22 : decode cL_put 22 = .ok (.ireturn, 1) := by decide +kernel
set_option maxRecDepth 20000 in
theorem ggL_turn_X2_turn : GoodIn wsL_turn wsX2_turn := goodIn_ca (goodIn_ca (goodIn_ca (goodIn_r _ [8, 9, 10, 11, 12, 13, 14, 15, 16, 7, 17, 18, 19, 20, 21, 22, 23, 24, 25, 26, 27, 28, 29, 30, 31, 32, 33, 34, 35, 36, 37, 38, 39, 40, 41, 42, 43, 44, 45, 46, 47, 48, 49, 50, 51, 52, 53, 54, 55, 56, 57, 58, 59, 60, 61, 62, 63, 64, 65, 66, 67, 68, 69, 70, 71, 72, 73, 74, 75, 76, 77, 78, 79, 80, 81, 82, 83, 84, 85, 86, 87, 88, 89, 90, 91, 92, 93, 94, 95, 96, 97, 98, 99, 100, 101, 102, 103, 104, 105, 106, 107, 108, 109, 110, 111, 112, 113, 114, 115, 116, 117, 118, 119, 120, 121, 122, 123, 124, 125, 126, 127, 128, 129, 130, 131, 132, 133, 134, 135, 136, 137, 138, 139, 140, 141] (by decide +kernel) (by decide +kernel)) (goodIn_sub (fun _ h => List.mem_cons_of_mem _ (List.mem_append_left _ (List.mem_append_left _ (List.mem_append_right _ h)))) (by decide +kernel))) (goodIn_sub (fun _ h => List.mem_cons_of_mem _ (List.mem_append_left _ (List.mem_append_right _ h))) (by decide +kernel))) (goodIn_sub (fun _ h => List.mem_cons_of_mem _ (List.mem_append_right _ h)) (by decide +kernel))
set_option maxRecDepth 20000 in
theorem gL_turn_X2_turn : GoodIn wsL_turn (wsV RL 23 RX2 yX2_turn wsX2_turn) := goodIn_app (goodIn_of _ (by decide +kernel)) ggL_turn_X2_turn
theorem dL_turn_0 : decode cL_turn 0 = .ok (.aload 4, 2) := by decide +kernel
theorem dL_turn_2 : decode cL_turn 2 = .ok (.iconst 0, 1) := by decide +kernel
theorem dL_turn_3 : decode cL_turn 3 = .ok (.aload_n 0, 1) := by decide +kernel
theorem dL_turn_4 : decode cL_turn 4 = .ok (.iload_n 1, 1) := by decide +kernel
theorem dL_turn_5 : decode cL_turn 5 = .ok (.lload_n 2, 1) := by decide +kernel
theorem dL_turn_6 : decode cL_turn 6 = .ok (.invokevirtual 23, 3) := by decide +kernel
theorem dL_turn_9 : decode cL_turn 9 = .ok (.lastore, 1) := by decide +kernel
theorem dL_turn_10 : decode cL_turn 10 = .ok (.goto 15, 3) := by decide +kernel
theorem dL_turn_13 : decode cL_turn 13 = .ok (.astore 5, 2) := by decide +kernel
theorem dL_turn_15 : decode cL_turn 15 = .ok (.iconst 1, 1) := by decide +kernel
theorem dL_turn_16 : decode cL_turn 16 = .ok (.ireturn, 1) := by decide +kernel
theorem dL_turn_17 : decode cL_turn 17 = .ok (.astore 5, 2) := by decide +kernel
theorem dL_turn_19 : decode cL_turn 19 = .ok (.iconst 2, 1) := by decide +kernel
theorem dL_turn_20 : decode cL_turn 20 = .ok (.ireturn, 1) := by decide +kernel
theorem dL_turn_21 : decode cL_turn 21 = .ok (.astore 5, 2) := by decide +kernel
theorem dL_turn_23 : decode cL_turn 23 = .ok (.iconst 3, 1) := by decide +kernel
theorem dL_turn_24 : decode cL_turn 24 = .ok (.ireturn, 1) := by decide +kernel
theorem dL_turn_25 : decode cL_turn 25 = .ok (.iconst 0, 1) := by decide +kernel
theorem dL_turn_26 : decode cL_turn 26 = .ok (.ireturn, 1) := by decide +kernel
set_option maxRecDepth 20000 in
theorem ggL_damp_X2_damp : GoodIn wsL_damp wsX2_damp := goodIn_ca (goodIn_ca (goodIn_r _ [7, 8, 9, 10, 11, 12, 6, 13, 14, 15, 16, 17, 18, 19, 20, 21, 22, 23, 24, 25, 26, 27, 28, 29, 30, 31, 32, 33, 34, 35, 36, 37, 38, 39, 40, 41, 42, 43, 44, 45, 46, 47, 48, 49, 50, 51, 52] (by decide +kernel) (by decide +kernel)) (goodIn_sub (fun _ h => List.mem_cons_of_mem _ (List.mem_append_left _ (List.mem_append_right _ h))) (by decide +kernel))) (goodIn_sub (fun _ h => List.mem_cons_of_mem _ (List.mem_append_right _ h)) (by decide +kernel))
set_option maxRecDepth 20000 in
theorem gL_damp_X2_damp : GoodIn wsL_damp (wsV RL 26 RX2 yX2_damp wsX2_damp) := goodIn_app (goodIn_of _ (by decide +kernel)) ggL_damp_X2_damp
theorem dL_damp_0 : decode cL_damp 0 = .ok (.aload 4, 2) := by decide +kernel
theorem dL_damp_2 : decode cL_damp 2 = .ok (.iconst 0, 1) := by decide +kernel
theorem dL_damp_3 : decode cL_damp 3 = .ok (.aload_n 0, 1) := by decide +kernel
theorem dL_damp_4 : decode cL_damp 4 = .ok (.iload_n 1, 1) := by decide +kernel
theorem dL_damp_5 : decode cL_damp 5 = .ok (.lload_n 2, 1) := by decide +kernel
theorem dL_damp_6 : decode cL_damp 6 = .ok (.invokevirtual 26, 3) := by decide +kernel
theorem dL_damp_9 : decode cL_damp 9 = .ok (.lastore, 1) := by decide +kernel
theorem dL_damp_10 : decode cL_damp 10 = .ok (.goto 11, 3) := by decide +kernel
theorem dL_damp_13 : decode cL_damp 13 = .ok (.astore 5, 2) := by decide +kernel
theorem dL_damp_15 : decode cL_damp 15 = .ok (.iconst 1, 1) := by decide +kernel
theorem dL_damp_16 : decode cL_damp 16 = .ok (.ireturn, 1) := by decide +kernel
theorem dL_damp_17 : decode cL_damp 17 = .ok (.astore 5, 2) := by decide +kernel
theorem dL_damp_19 : decode cL_damp 19 = .ok (.iconst 2, 1) := by decide +kernel
theorem dL_damp_20 : decode cL_damp 20 = .ok (.ireturn, 1) := by decide +kernel
theorem dL_damp_21 : decode cL_damp 21 = .ok (.iconst 0, 1) := by decide +kernel
theorem dL_damp_22 : decode cL_damp 22 = .ok (.ireturn, 1) := by decide +kernel
set_option maxRecDepth 20000 in
theorem ggL_pull_X2_pull : GoodIn wsL_pull wsX2_pull := goodIn_ca (goodIn_ca (goodIn_r _ [7, 8, 9, 10, 11, 12, 13, 6, 14, 15, 16, 17, 18, 19, 20, 21, 22, 23, 24, 25, 26, 27, 28, 29, 30, 31, 32, 33, 34, 35, 36, 37, 38, 39, 40, 41, 42, 43, 44, 45, 46, 47, 48, 49, 50, 51, 52, 53, 54, 55, 56, 57, 58, 59, 60, 61, 62, 63, 64, 65, 66, 67, 68, 69, 70, 71, 72, 73, 74, 75, 76, 77, 78, 79, 80, 81, 82, 83, 84, 85, 86, 87, 88, 89, 90, 91, 92, 93, 94, 95, 96, 97, 98, 99, 100, 101, 102, 103, 104, 105, 106, 107, 108, 109, 110, 111, 112, 113, 114, 115, 116, 117, 118, 119, 120, 121, 122, 123, 124, 125, 126, 127, 128, 129, 130, 131, 132, 133, 134, 135, 136, 137, 138, 139, 140, 141, 142, 143, 144, 145] (by decide +kernel) (by decide +kernel)) (goodIn_sub (fun _ h => List.mem_cons_of_mem _ (List.mem_append_left _ (List.mem_append_right _ h))) (by decide +kernel))) (goodIn_sub (fun _ h => List.mem_cons_of_mem _ (List.mem_append_right _ h)) (by decide +kernel))
set_option maxRecDepth 20000 in
theorem gL_pull_X2_pull : GoodIn wsL_pull (wsV RL 29 RX2 yX2_pull wsX2_pull) := goodIn_app (goodIn_of _ (by decide +kernel)) ggL_pull_X2_pull
theorem dL_pull_0 : decode cL_pull 0 = .ok (.aload 4, 2) := by decide +kernel
theorem dL_pull_2 : decode cL_pull 2 = .ok (.iconst 0, 1) := by decide +kernel
theorem dL_pull_3 : decode cL_pull 3 = .ok (.aload_n 0, 1) := by decide +kernel
theorem dL_pull_4 : decode cL_pull 4 = .ok (.iload_n 1, 1) := by decide +kernel
theorem dL_pull_5 : decode cL_pull 5 = .ok (.lload_n 2, 1) := by decide +kernel
theorem dL_pull_6 : decode cL_pull 6 = .ok (.invokevirtual 29, 3) := by decide +kernel
theorem dL_pull_9 : decode cL_pull 9 = .ok (.ifCond .eq 7, 3) := by decide +kernel
theorem dL_pull_12 : decode cL_pull 12 = .ok (.lconst 1, 1) := by decide +kernel
theorem dL_pull_13 : decode cL_pull 13 = .ok (.goto 4, 3) := by decide +kernel
theorem dL_pull_16 : decode cL_pull 16 = .ok (.lconst 0, 1) := by decide +kernel
theorem dL_pull_17 : decode cL_pull 17 = .ok (.lastore, 1) := by decide +kernel
theorem dL_pull_18 : decode cL_pull 18 = .ok (.goto 11, 3) := by decide +kernel
theorem dL_pull_21 : decode cL_pull 21 = .ok (.astore 5, 2) := by decide +kernel
theorem dL_pull_23 : decode cL_pull 23 = .ok (.iconst 1, 1) := by decide +kernel
theorem dL_pull_24 : decode cL_pull 24 = .ok (.ireturn, 1) := by decide +kernel
theorem dL_pull_25 : decode cL_pull 25 = .ok (.astore 5, 2) := by decide +kernel
theorem dL_pull_27 : decode cL_pull 27 = .ok (.iconst 2, 1) := by decide +kernel
theorem dL_pull_28 : decode cL_pull 28 = .ok (.ireturn, 1) := by decide +kernel
theorem dL_pull_29 : decode cL_pull 29 = .ok (.iconst 0, 1) := by decide +kernel
theorem dL_pull_30 : decode cL_pull 30 = .ok (.ireturn, 1) := by decide +kernel
set_option maxRecDepth 20000 in
theorem ggL_rest_X2_rest : GoodIn wsL_rest wsX2_rest := goodIn_ca (goodIn_ca (goodIn_r _ [7, 8, 9, 10, 11, 12, 13, 14, 15, 6, 16, 17, 18, 19, 20, 21, 22, 23, 24, 25, 26, 27, 28, 29, 30, 31, 32, 33, 34, 35, 36, 37, 38, 39, 40, 41, 42, 43, 44, 45, 46, 47, 48, 49, 50, 51, 52, 53, 54, 55, 56, 57, 58, 59, 60, 61, 62, 63, 64, 65, 66, 67, 68, 69, 70, 71, 72, 73, 74, 75, 76, 77, 78, 79, 80, 81, 82, 83, 84, 85, 86, 87, 88, 89, 90, 91, 92, 93, 94, 95, 96, 97, 98, 99, 100, 101, 102, 103, 104, 105, 106, 107, 108, 109, 110, 111, 112, 113] (by decide +kernel) (by decide +kernel)) (goodIn_sub (fun _ h => List.mem_cons_of_mem _ (List.mem_append_left _ (List.mem_append_right _ h))) (by decide +kernel))) (goodIn_sub (fun _ h => List.mem_cons_of_mem _ (List.mem_append_right _ h)) (by decide +kernel))
set_option maxRecDepth 20000 in
theorem gL_rest_X2_rest : GoodIn wsL_rest (wsV RL 33 RX2 yX2_rest wsX2_rest) := goodIn_app (goodIn_of _ (by decide +kernel)) ggL_rest_X2_rest
theorem dL_rest_0 : decode cL_rest 0 = .ok (.aload_n 3, 1) := by decide +kernel
theorem dL_rest_1 : decode cL_rest 1 = .ok (.iconst 0, 1) := by decide +kernel
theorem dL_rest_2 : decode cL_rest 2 = .ok (.aload_n 0, 1) := by decide +kernel
theorem dL_rest_3 : decode cL_rest 3 = .ok (.iload_n 1, 1) := by decide +kernel
theorem dL_rest_4 : decode cL_rest 4 = .ok (.iload_n 2, 1) := by decide +kernel
theorem dL_rest_5 : decode cL_rest 5 = .ok (.invokevirtual 33, 3) := by decide +kernel
theorem dL_rest_8 : decode cL_rest 8 = .ok (.lastore, 1) := by decide +kernel
theorem dL_rest_9 : decode cL_rest 9 = .ok (.goto 11, 3) := by decide +kernel
theorem dL_rest_12 : decode cL_rest 12 = .ok (.astore 4, 2) := by decide +kernel
theorem dL_rest_14 : decode cL_rest 14 = .ok (.iconst 1, 1) := by decide +kernel
theorem dL_rest_15 : decode cL_rest 15 = .ok (.ireturn, 1) := by decide +kernel
theorem dL_rest_16 : decode cL_rest 16 = .ok (.astore 4, 2) := by decide +kernel
theorem dL_rest_18 : decode cL_rest 18 = .ok (.iconst 2, 1) := by decide +kernel
theorem dL_rest_19 : decode cL_rest 19 = .ok (.ireturn, 1) := by decide +kernel
theorem dL_rest_20 : decode cL_rest 20 = .ok (.iconst 0, 1) := by decide +kernel
theorem dL_rest_21 : decode cL_rest 21 = .ok (.ireturn, 1) := by decide +kernel
set_option maxRecDepth 20000 in
theorem ggL_face_X2_face : GoodIn wsL_face wsX2_face := goodIn_ca (goodIn_r _ [6, 7, 8, 9, 10, 11, 12, 5, 13, 14, 15, 16, 17, 18, 19, 20, 21, 22, 23, 24, 25, 26, 27, 28, 29, 30, 31, 32, 33, 34, 35, 36, 37, 38, 39, 40, 41, 42, 43, 44, 45, 46, 47, 48, 49, 50, 51, 52, 53, 54, 55, 56, 57, 58, 59, 60, 61, 62, 63, 64, 65, 66, 67, 68, 69, 70, 71, 72, 73, 74, 75, 76, 77] (by decide +kernel) (by decide +kernel)) (goodIn_sub (fun _ h => List.mem_cons_of_mem _ (List.mem_append_right _ h)) (by decide +kernel))
set_option maxRecDepth 20000 in
theorem gL_face_X2_face : GoodIn wsL_face (wsV RL 37 RX2 yX2_face wsX2_face) := goodIn_app (goodIn_of _ (by decide +kernel)) ggL_face_X2_face
theorem dL_face_0 : decode cL_face 0 = .ok (.aload_n 3, 1) := by decide +kernel
theorem dL_face_1 : decode cL_face 1 = .ok (.iconst 0, 1) := by decide +kernel
theorem dL_face_2 : decode cL_face 2 = .ok (.aload_n 0, 1) := by decide +kernel
theorem dL_face_3 : decode cL_face 3 = .ok (.iload_n 1, 1) := by decide +kernel
theorem dL_face_4 : decode cL_face 4 = .ok (.iload_n 2, 1) := by decide +kernel
theorem dL_face_5 : decode cL_face 5 = .ok (.invokevirtual 37, 3) := by decide +kernel
theorem dL_face_8 : decode cL_face 8 = .ok (.lastore, 1) := by decide +kernel
theorem dL_face_9 : decode cL_face 9 = .ok (.goto 7, 3) := by decide +kernel
theorem dL_face_12 : decode cL_face 12 = .ok (.astore 4, 2) := by decide +kernel
theorem dL_face_14 : decode cL_face 14 = .ok (.iconst 1, 1) := by decide +kernel
theorem dL_face_15 : decode cL_face 15 = .ok (.ireturn, 1) := by decide +kernel
theorem dL_face_16 : decode cL_face 16 = .ok (.iconst 0, 1) := by decide +kernel
theorem dL_face_17 : decode cL_face 17 = .ok (.ireturn, 1) := by decide +kernel
set_option maxRecDepth 20000 in
theorem ggL_read_X2_read : GoodIn wsL_read wsX2_read := goodIn_ca (goodIn_ca (goodIn_r _ [7, 8, 9, 10, 11, 12, 13, 14, 15, 16, 17, 18, 19, 20, 6, 21, 22, 23, 24, 25, 26, 27, 28, 29, 30, 31, 32, 33, 34, 35, 36, 37, 38, 39, 40, 41, 42, 43, 44, 45, 46, 47, 48, 49, 50, 51, 52, 53, 54] (by decide +kernel) (by decide +kernel)) (goodIn_sub (fun _ h => List.mem_cons_of_mem _ (List.mem_append_left _ (List.mem_append_right _ h))) (by decide +kernel))) (goodIn_sub (fun _ h => List.mem_cons_of_mem _ (List.mem_append_right _ h)) (by decide +kernel))
set_option maxRecDepth 20000 in
theorem gL_read_X2_read : GoodIn wsL_read (wsV RL 40 RX2 yX2_read wsX2_read) := goodIn_app (goodIn_of _ (by decide +kernel)) ggL_read_X2_read
theorem dL_read_0 : decode cL_read 0 = .ok (.aload_n 3, 1) := by decide +kernel
theorem dL_read_1 : decode cL_read 1 = .ok (.iconst 0, 1) := by decide +kernel
theorem dL_read_2 : decode cL_read 2 = .ok (.aload_n 0, 1) := by decide +kernel
theorem dL_read_3 : decode cL_read 3 = .ok (.iload_n 1, 1) := by decide +kernel
theorem dL_read_4 : decode cL_read 4 = .ok (.iload_n 2, 1) := by decide +kernel
theorem dL_read_5 : decode cL_read 5 = .ok (.invokevirtual 40, 3) := by decide +kernel
theorem dL_read_8 : decode cL_read 8 = .ok (.lastore, 1) := by decide +kernel
theorem dL_read_9 : decode cL_read 9 = .ok (.goto 11, 3) := by decide +kernel
theorem dL_read_12 : decode cL_read 12 = .ok (.astore 4, 2) := by decide +kernel
theorem dL_read_14 : decode cL_read 14 = .ok (.iconst 1, 1) := by decide +kernel
theorem dL_read_15 : decode cL_read 15 = .ok (.ireturn, 1) := by decide +kernel
theorem dL_read_16 : decode cL_read 16 = .ok (.astore 4, 2) := by decide +kernel
theorem dL_read_18 : decode cL_read 18 = .ok (.iconst 2, 1) := by decide +kernel
theorem dL_read_19 : decode cL_read 19 = .ok (.ireturn, 1) := by decide +kernel
theorem dL_read_20 : decode cL_read 20 = .ok (.iconst 0, 1) := by decide +kernel
theorem dL_read_21 : decode cL_read 21 = .ok (.ireturn, 1) := by decide +kernel
set_option maxRecDepth 20000 in
theorem ggL_between_X2_between : GoodIn wsL_between wsX2_between := goodIn_ca (goodIn_ca (goodIn_r _ [7, 8, 9, 10, 11, 12, 13, 14, 15, 16, 17, 18, 19, 20, 21, 6, 22, 23, 24, 25, 26, 27, 28, 29, 30, 31, 32, 33, 34, 35, 36, 37, 38, 39, 40, 41, 42, 43, 44, 45, 46, 47, 48, 49, 50, 51, 52, 53, 54, 55, 56, 57, 58, 59, 60, 61] (by decide +kernel) (by decide +kernel)) (goodIn_sub (fun _ h => List.mem_cons_of_mem _ (List.mem_append_left _ (List.mem_append_right _ h))) (by decide +kernel))) (goodIn_sub (fun _ h => List.mem_cons_of_mem _ (List.mem_append_right _ h)) (by decide +kernel))
set_option maxRecDepth 20000 in
theorem gL_between_X2_between : GoodIn wsL_between (wsV RL 43 RX2 yX2_between wsX2_between) := goodIn_app (goodIn_of _ (by decide +kernel)) ggL_between_X2_between
theorem dL_between_0 : decode cL_between 0 = .ok (.aload 4, 2) := by decide +kernel
theorem dL_between_2 : decode cL_between 2 = .ok (.iconst 0, 1) := by decide +kernel
theorem dL_between_3 : decode cL_between 3 = .ok (.aload_n 0, 1) := by decide +kernel
theorem dL_between_4 : decode cL_between 4 = .ok (.iload_n 1, 1) := by decide +kernel
theorem dL_between_5 : decode cL_between 5 = .ok (.iload_n 2, 1) := by decide +kernel
theorem dL_between_6 : decode cL_between 6 = .ok (.iload_n 3, 1) := by decide +kernel
theorem dL_between_7 : decode cL_between 7 = .ok (.invokevirtual 43, 3) := by decide +kernel
theorem dL_between_10 : decode cL_between 10 = .ok (.lastore, 1) := by decide +kernel
theorem dL_between_11 : decode cL_between 11 = .ok (.goto 11, 3) := by decide +kernel
theorem dL_between_14 : decode cL_between 14 = .ok (.astore 5, 2) := by decide +kernel
theorem dL_between_16 : decode cL_between 16 = .ok (.iconst 1, 1) := by decide +kernel
theorem dL_between_17 : decode cL_between 17 = .ok (.ireturn, 1) := by decide +kernel
theorem dL_between_18 : decode cL_between 18 = .ok (.astore 5, 2) := by decide +kernel
theorem dL_between_20 : decode cL_between 20 = .ok (.iconst 2, 1) := by decide +kernel
theorem dL_between_21 : decode cL_between 21 = .ok (.ireturn, 1) := by decide +kernel
theorem dL_between_22 : decode cL_between 22 = .ok (.iconst 0, 1) := by decide +kernel
theorem dL_between_23 : decode cL_between 23 = .ok (.ireturn, 1) := by decide +kernel
set_option maxRecDepth 20000 in
theorem ggL_order_X2_order : GoodIn wsL_order wsX2_order := goodIn_ca (goodIn_r _ [6, 7, 8, 9, 10, 5, 11, 12, 13, 14, 15, 16, 17, 18, 19, 20, 21, 22, 23, 24, 25, 26, 27, 28, 29, 30, 31, 32, 33, 34, 35, 36, 37, 38, 39, 40, 41, 42, 43, 44, 45, 46, 47, 48, 49, 50, 51, 52, 53, 54, 55, 56, 57, 58, 59, 60, 61, 62, 63, 64, 65, 66, 67, 68, 69, 70, 71, 72, 73, 74, 75, 76, 77, 78, 79, 80, 81, 82, 83, 84, 85, 86, 87, 88, 89, 90] (by decide +kernel) (by decide +kernel)) (goodIn_sub (fun _ h => List.mem_cons_of_mem _ (List.mem_append_right _ h)) (by decide +kernel))
set_option maxRecDepth 20000 in
theorem gL_order_X2_order : GoodIn wsL_order (wsV RL 47 RX2 yX2_order wsX2_order) := goodIn_app (goodIn_of _ (by decide +kernel)) ggL_order_X2_order
theorem dL_order_0 : decode cL_order 0 = .ok (.aload_n 3, 1) := by decide +kernel
theorem dL_order_1 : decode cL_order 1 = .ok (.iconst 0, 1) := by decide +kernel
theorem dL_order_2 : decode cL_order 2 = .ok (.aload_n 0, 1) := by decide +kernel
theorem dL_order_3 : decode cL_order 3 = .ok (.iload_n 1, 1) := by decide +kernel
theorem dL_order_4 : decode cL_order 4 = .ok (.iload_n 2, 1) := by decide +kernel
theorem dL_order_5 : decode cL_order 5 = .ok (.invokevirtual 47, 3) := by decide +kernel
theorem dL_order_8 : decode cL_order 8 = .ok (.i2l, 1) := by decide +kernel
theorem dL_order_9 : decode cL_order 9 = .ok (.lastore, 1) := by decide +kernel
theorem dL_order_10 : decode cL_order 10 = .ok (.goto 7, 3) := by decide +kernel
theorem dL_order_13 : decode cL_order 13 = .ok (.astore 4, 2) := by decide +kernel
theorem dL_order_15 : decode cL_order 15 = .ok (.iconst 1, 1) := by decide +kernel
theorem dL_order_16 : decode cL_order 16 = .ok (.ireturn, 1) := by decide +kernel
theorem dL_order_17 : decode cL_order 17 = .ok (.iconst 0, 1) := by decide +kernel
theorem dL_order_18 : decode cL_order 18 = .ok (.ireturn, 1) := by decide +kernel
set_option maxRecDepth 20000 in
theorem ggL_back_X2_back : GoodIn wsL_back wsX2_back := goodIn_ca (goodIn_r _ [6, 7, 8, 9, 5, 10, 11, 12, 13, 14, 15, 16, 17, 18, 19, 20, 21, 22, 23, 24, 25, 26, 27, 28, 29, 30, 31, 32, 33, 34, 35, 36, 37, 38, 39, 40, 41, 42, 43, 44, 45, 46, 47, 48, 49, 50, 51, 52, 53, 54, 55, 56, 57, 58, 59, 60, 61, 62, 63, 64, 65] (by decide +kernel) (by decide +kernel)) (goodIn_sub (fun _ h => List.mem_cons_of_mem _ (List.mem_append_right _ h)) (by decide +kernel))
set_option maxRecDepth 20000 in
theorem gL_back_X2_back : GoodIn wsL_back (wsV RL 51 RX2 yX2_back wsX2_back) := goodIn_app (goodIn_of _ (by decide +kernel)) ggL_back_X2_back
theorem dL_back_0 : decode cL_back 0 = .ok (.aload_n 0, 1) := by decide +kernel
theorem dL_back_1 : decode cL_back 1 = .ok (.iload_n 1, 1) := by decide +kernel
theorem dL_back_2 : decode cL_back 2 = .ok (.invokevirtual 51, 3) := by decide +kernel
theorem dL_back_5 : decode cL_back 5 = .ok (.goto 6, 3) := by decide +kernel
theorem dL_back_8 : decode cL_back 8 = .ok (.astore_n 2, 1) := by decide +kernel
theorem dL_back_9 : decode cL_back 9 = .ok (.iconst 1, 1) := by decide +kernel
theorem dL_back_10 : decode cL_back 10 = .ok (.ireturn, 1) := by decide +kernel
theorem dL_back_11 : decode cL_back 11 = .ok (.iconst 0, 1) := by decide +kernel
theorem dL_back_12 : decode cL_back 12 = .ok (.ireturn, 1) := by decide +kernel
set_option maxRecDepth 20000 in
theorem ggL_tally_X2_tally : GoodIn wsL_tally wsX2_tally := goodIn_ca (goodIn_r _ [6, 7, 8, 9, 10, 11, 12, 5, 13, 14, 15, 16, 17, 18, 19, 20, 21, 22, 23, 24, 25, 26, 27, 28] (by decide +kernel) (by decide +kernel)) (goodIn_sub (fun _ h => List.mem_cons_of_mem _ (List.mem_append_right _ h)) (by decide +kernel))
set_option maxRecDepth 20000 in
theorem gL_tally_X2_tally : GoodIn wsL_tally (wsV RL 55 RX2 yX2_tally wsX2_tally) := goodIn_app (goodIn_of _ (by decide +kernel)) ggL_tally_X2_tally
theorem dL_tally_0 : decode cL_tally 0 = .ok (.aload 5, 2) := by decide +kernel
theorem dL_tally_2 : decode cL_tally 2 = .ok (.iconst 0, 1) := by decide +kernel
theorem dL_tally_3 : decode cL_tally 3 = .ok (.aload_n 0, 1) := by decide +kernel
theorem dL_tally_4 : decode cL_tally 4 = .ok (.iload_n 1, 1) := by decide +kernel
theorem dL_tally_5 : decode cL_tally 5 = .ok (.iload_n 2, 1) := by decide +kernel
theorem dL_tally_6 : decode cL_tally 6 = .ok (.lload_n 3, 1) := by decide +kernel
theorem dL_tally_7 : decode cL_tally 7 = .ok (.invokevirtual 55, 3) := by decide +kernel
theorem dL_tally_10 : decode cL_tally 10 = .ok (.lastore, 1) := by decide +kernel
theorem dL_tally_11 : decode cL_tally 11 = .ok (.goto 7, 3) := by decide +kernel
theorem dL_tally_14 : decode cL_tally 14 = .ok (.astore 6, 2) := by decide +kernel
theorem dL_tally_16 : decode cL_tally 16 = .ok (.iconst 1, 1) := by decide +kernel
theorem dL_tally_17 : decode cL_tally 17 = .ok (.ireturn, 1) := by decide +kernel
theorem dL_tally_18 : decode cL_tally 18 = .ok (.iconst 0, 1) := by decide +kernel
theorem dL_tally_19 : decode cL_tally 19 = .ok (.ireturn, 1) := by decide +kernel
set_option maxRecDepth 20000 in
theorem ggL_law_X2_init : GoodIn wsL_law wsX2_init := goodIn_r _ [10, 11, 12, 13, 14, 15, 490, 491, 492, 493, 494] (by decide +kernel) (by decide +kernel)
set_option maxRecDepth 20000 in
theorem gL_law_X2_init : GoodIn wsL_law (wsX2_init) := ggL_law_X2_init
set_option maxRecDepth 20000 in
theorem ggL_law_X3_init : GoodIn wsL_law wsX3_init := goodIn_r _ [18, 19, 12, 13, 20, 21, 6, 22, 495, 496, 497, 498, 499, 500, 501] (by decide +kernel) (by decide +kernel)
set_option maxRecDepth 20000 in
theorem gL_law_X3_init : GoodIn wsL_law (wsX3_init) := ggL_law_X3_init
set_option maxRecDepth 20000 in
theorem ggL_law_L_needle : GoodIn wsL_law wsL_needle := goodIn_ca (goodIn_ca (goodIn_r _ [26, 27, 28, 29, 30, 31, 2, 32, 33, 34, 35, 36, 37, 38, 39, 15, 14, 40, 41, 42, 43, 44, 45, 46, 47, 48, 49, 50, 51, 52, 53, 54, 55, 56, 57, 58, 59, 60, 61, 62, 63, 64, 65, 66, 67, 68, 69, 70, 71, 72, 73, 12, 13, 74, 75, 76, 77, 78, 79, 80, 81, 82, 83, 84, 85, 86, 87, 88, 89, 90, 91, 92, 93, 94, 95, 96, 97, 98, 99, 100, 490, 491, 492, 493, 494, 502, 503, 504, 505, 506, 507, 508, 509] (by decide +kernel) (by decide +kernel)) (goodIn_sub (fun _ h => List.mem_append_left _ (List.mem_append_left _ (List.mem_append_right _ h))) (by decide +kernel))) (goodIn_sub (fun _ h => List.mem_append_left _ (List.mem_append_right _ h)) (by decide +kernel))
set_option maxRecDepth 20000 in
theorem gL_law_L_needle : GoodIn wsL_law (va_wsS RL 65 yL_needle wsL_needle) := goodIn_app (goodIn_of _ (by decide +kernel)) ggL_law_L_needle
set_option maxRecDepth 20000 in
theorem ggL_law_X3_needle : GoodIn wsL_law wsX3_needle := goodIn_r _ [104, 105, 106, 21, 107, 108, 109, 110, 5, 111, 112, 113, 114, 115, 116, 117, 118, 119, 120, 121, 122, 123, 124, 125, 126, 127, 22, 128, 129, 130, 131, 132, 133, 134, 135, 136, 137, 138, 139, 495, 496, 497, 498, 499, 500, 501] (by decide +kernel) (by decide +kernel)
set_option maxRecDepth 20000 in
theorem gL_law_X3_needle : GoodIn wsL_law (wsV RL 70 RX3 yX3_needle wsX3_needle) := goodIn_app (goodIn_of _ (by decide +kernel)) ggL_law_X3_needle
set_option maxRecDepth 20000 in
theorem ggL_law_X3_thrown : GoodIn wsL_law wsX3_thrown := goodIn_r _ [143, 106, 495, 496, 497, 498, 499, 500, 501] (by decide +kernel) (by decide +kernel)
set_option maxRecDepth 20000 in
theorem gL_law_X3_thrown : GoodIn wsL_law (wsV RL 71 RX3 yX3_thrown wsX3_thrown) := goodIn_app (goodIn_of _ (by decide +kernel)) ggL_law_X3_thrown
set_option maxRecDepth 20000 in
theorem ggL_law_L_put : GoodIn wsL_law wsL_put := goodIn_ca (goodIn_ca (goodIn_r _ [146, 147, 27, 148, 149, 150, 2, 151, 152, 153, 154, 155, 156, 157, 158, 159, 160, 15, 42, 43, 44, 33, 34, 45, 46, 47, 48, 49, 50, 51, 52, 53, 54, 55, 56, 57, 58, 59, 60, 61, 161, 162, 163, 41, 164, 83, 74, 84, 85, 86, 165, 166, 167, 168, 87, 88, 89, 90, 75, 76, 91, 92, 93, 94, 95, 63, 64, 65, 66, 67, 68, 69, 96, 97, 98, 99, 100, 502, 503, 504, 505, 506, 507, 508, 509, 490, 491, 492, 493, 494] (by decide +kernel) (by decide +kernel)) (goodIn_sub (fun _ h => List.mem_append_right _ h) (by decide +kernel))) (goodIn_sub (fun _ h => List.mem_append_left _ (List.mem_append_left _ (List.mem_append_right _ h))) (by decide +kernel))
set_option maxRecDepth 20000 in
theorem gL_law_L_put : GoodIn wsL_law (va_wsS RL 75 yL_put wsL_put) := goodIn_app (goodIn_of _ (by decide +kernel)) ggL_law_L_put
set_option maxRecDepth 20000 in
theorem ggL_law_X3_put : GoodIn wsL_law wsX3_put := goodIn_r _ [172, 21, 173, 174, 175, 5, 176, 106, 177, 178, 179, 180, 105, 112, 113, 114, 107, 108, 115, 116, 117, 118, 119, 109, 110, 111, 181, 182, 183, 184, 185, 132, 133, 134, 135, 120, 121, 122, 123, 136, 137, 138, 139, 22, 124, 125, 126, 127, 495, 496, 497, 498, 499, 500, 501] (by decide +kernel) (by decide +kernel)
set_option maxRecDepth 20000 in
theorem gL_law_X3_put : GoodIn wsL_law (wsV RL 78 RX3 yX3_put wsX3_put) := goodIn_app (goodIn_of _ (by decide +kernel)) ggL_law_X3_put
set_option maxRecDepth 20000 in
theorem ggL_law_L_turn : GoodIn wsL_law wsL_turn := goodIn_ca (goodIn_ca (goodIn_ca (goodIn_r _ [188, 147, 27, 28, 189, 190, 191, 2, 192, 35, 36, 152, 154, 153, 155, 156, 157, 158, 159, 160, 15, 42, 43, 44, 33, 34, 45, 46, 47, 48, 49, 50, 51, 52, 53, 54, 55, 56, 57, 58, 59, 60, 61, 193, 194, 195, 196, 197, 198, 199, 200, 201, 202, 203, 204, 205, 206, 207, 208, 209, 210, 211, 212, 213, 214, 215, 167, 216, 217, 218, 219, 220, 221, 222, 223, 224, 225, 226, 227, 228, 229, 230, 231, 232, 233, 234, 235, 236, 237, 238, 239, 240, 241, 161, 162, 163, 41, 164, 83, 74, 84, 85, 86, 165, 166, 168, 87, 88, 89, 90, 75, 76, 91, 92, 93, 94, 95, 63, 64, 65, 66, 67, 68, 69, 96, 97, 98, 99, 100, 502, 503, 504, 505, 506, 507, 508, 509, 490, 491, 492, 493, 494] (by decide +kernel) (by decide +kernel)) (goodIn_sub (fun _ h => List.mem_append_left _ (List.mem_append_right _ h)) (by decide +kernel))) (goodIn_sub (fun _ h => List.mem_append_right _ h) (by decide +kernel))) (goodIn_sub (fun _ h => List.mem_append_left _ (List.mem_append_left _ (List.mem_append_right _ h))) (by decide +kernel))
set_option maxRecDepth 20000 in
theorem gL_law_L_turn : GoodIn wsL_law (va_wsS RL 79 yL_turn wsL_turn) := goodIn_app (goodIn_of _ (by decide +kernel)) ggL_law_L_turn
set_option maxRecDepth 20000 in
theorem ggL_law_X3_turn : GoodIn wsL_law wsX3_turn := goodIn_r _ [245, 21, 106, 173, 174, 175, 5, 176, 177, 178, 179, 180, 105, 112, 113, 114, 107, 108, 115, 116, 117, 118, 119, 109, 110, 111, 136, 137, 138, 139, 22, 246, 247, 248, 249, 250, 251, 252, 253, 254, 255, 256, 257, 258, 259, 260, 261, 262, 263, 264, 265, 266, 267, 268, 269, 270, 271, 272, 273, 274, 275, 276, 277, 278, 279, 280, 281, 181, 182, 183, 184, 185, 132, 133, 134, 135, 120, 121, 122, 123, 124, 125, 126, 127, 495, 496, 497, 498, 499, 500, 501] (by decide +kernel) (by decide +kernel)
set_option maxRecDepth 20000 in
theorem gL_law_X3_turn : GoodIn wsL_law (wsV RL 81 RX3 yX3_turn wsX3_turn) := goodIn_app (goodIn_of _ (by decide +kernel)) ggL_law_X3_turn
set_option maxRecDepth 20000 in
theorem ggL_law_L_damp : GoodIn wsL_law wsL_damp := goodIn_ca (goodIn_ca (goodIn_r _ [284, 147, 27, 285, 286, 287, 2, 288, 152, 289, 155, 156, 157, 158, 159, 160, 15, 42, 43, 44, 33, 34, 45, 46, 47, 48, 49, 50, 51, 52, 53, 54, 55, 56, 57, 58, 59, 60, 61, 290, 502, 503, 504, 505, 506, 507, 508, 509, 490, 491, 492, 493, 494] (by decide +kernel) (by decide +kernel)) (goodIn_sub (fun _ h => List.mem_append_right _ h) (by decide +kernel))) (goodIn_sub (fun _ h => List.mem_append_left _ (List.mem_append_left _ (List.mem_append_right _ h))) (by decide +kernel))
set_option maxRecDepth 20000 in
theorem gL_law_L_damp : GoodIn wsL_law (va_wsS RL 82 yL_damp wsL_damp) := goodIn_app (goodIn_of _ (by decide +kernel)) ggL_law_L_damp
set_option maxRecDepth 20000 in
theorem ggL_law_X3_damp : GoodIn wsL_law wsX3_damp := goodIn_r _ [294, 21, 173, 174, 175, 5, 176, 106, 177, 178, 179, 180, 105, 112, 113, 114, 107, 108, 115, 116, 117, 118, 119, 124, 125, 126, 127, 22, 136, 137, 138, 139, 495, 496, 497, 498, 499, 500, 501] (by decide +kernel) (by decide +kernel)
set_option maxRecDepth 20000 in
theorem gL_law_X3_damp : GoodIn wsL_law (wsV RL 84 RX3 yX3_damp wsX3_damp) := goodIn_app (goodIn_of _ (by decide +kernel)) ggL_law_X3_damp
set_option maxRecDepth 20000 in
theorem ggL_law_L_pull : GoodIn wsL_law wsL_pull := goodIn_ca (goodIn_ca (goodIn_r _ [297, 147, 27, 298, 299, 300, 2, 301, 152, 153, 154, 155, 156, 157, 158, 159, 160, 15, 42, 43, 44, 33, 34, 45, 46, 47, 48, 49, 50, 51, 52, 53, 54, 55, 56, 57, 58, 59, 60, 61, 302, 303, 304, 41, 305, 74, 83, 78, 306, 307, 308, 309, 310, 198, 199, 200, 311, 202, 203, 204, 205, 206, 207, 208, 209, 210, 211, 212, 213, 214, 215, 167, 216, 217, 218, 219, 220, 221, 222, 223, 224, 225, 226, 227, 228, 229, 230, 231, 232, 233, 234, 235, 236, 237, 238, 239, 240, 241, 100, 312, 161, 162, 163, 164, 84, 85, 86, 165, 166, 168, 87, 88, 89, 90, 75, 76, 91, 92, 93, 94, 95, 63, 64, 65, 66, 67, 68, 69, 96, 97, 98, 99, 313, 502, 503, 504, 505, 506, 507, 508, 509, 490, 491, 492, 493, 494] (by decide +kernel) (by decide +kernel)) (goodIn_sub (fun _ h => List.mem_append_right _ h) (by decide +kernel))) (goodIn_sub (fun _ h => List.mem_append_left _ (List.mem_append_left _ (List.mem_append_right _ h))) (by decide +kernel))
set_option maxRecDepth 20000 in
theorem gL_law_L_pull : GoodIn wsL_law (va_wsS RL 85 yL_pull wsL_pull) := goodIn_app (goodIn_of _ (by decide +kernel)) ggL_law_L_pull
set_option maxRecDepth 20000 in
theorem ggL_law_X3_pull : GoodIn wsL_law wsX3_pull := goodIn_r _ [317, 21, 173, 174, 175, 5, 176, 106, 177, 178, 179, 180, 105, 112, 113, 114, 107, 108, 115, 116, 117, 118, 119, 109, 110, 111, 136, 137, 138, 139, 22, 318, 319, 320, 321, 322, 323, 324, 325, 326, 327, 328, 329, 330, 331, 249, 250, 251, 252, 253, 254, 255, 256, 257, 258, 259, 260, 261, 262, 263, 264, 265, 266, 267, 268, 269, 270, 271, 272, 273, 274, 275, 276, 277, 278, 279, 280, 281, 181, 182, 183, 184, 185, 132, 133, 134, 135, 120, 121, 122, 123, 124, 125, 126, 127, 495, 496, 497, 498, 499, 500, 501] (by decide +kernel) (by decide +kernel)
set_option maxRecDepth 20000 in
theorem gL_law_X3_pull : GoodIn wsL_law (wsV RL 87 RX3 yX3_pull wsX3_pull) := goodIn_app (goodIn_of _ (by decide +kernel)) ggL_law_X3_pull
set_option maxRecDepth 20000 in
theorem ggL_law_L_rest : GoodIn wsL_law wsL_rest := goodIn_ca (goodIn_ca (goodIn_r _ [334, 147, 27, 335, 336, 337, 2, 338, 33, 34, 152, 154, 153, 155, 156, 157, 158, 159, 160, 15, 339, 340, 341, 48, 342, 229, 213, 56, 57, 58, 59, 60, 61, 209, 210, 211, 212, 214, 215, 167, 216, 343, 344, 345, 346, 347, 221, 348, 349, 350, 351, 352, 353, 354, 217, 218, 219, 220, 235, 236, 237, 238, 239, 240, 241, 161, 162, 163, 41, 164, 83, 74, 84, 85, 86, 165, 166, 168, 87, 88, 89, 90, 75, 76, 91, 92, 93, 94, 95, 63, 64, 65, 66, 67, 68, 69, 96, 97, 98, 99, 100, 502, 503, 504, 505, 506, 507, 508, 509, 490, 491, 492, 493, 494] (by decide +kernel) (by decide +kernel)) (goodIn_sub (fun _ h => List.mem_append_left _ (List.mem_append_left _ (List.mem_append_right _ h))) (by decide +kernel))) (goodIn_sub (fun _ h => List.mem_append_right _ h) (by decide +kernel))
set_option maxRecDepth 20000 in
theorem gL_law_L_rest : GoodIn wsL_law (va_wsS RL 88 yL_rest wsL_rest) := goodIn_app (goodIn_of _ (by decide +kernel)) ggL_law_L_rest
set_option maxRecDepth 20000 in
theorem ggL_law_X3_rest : GoodIn wsL_law wsX3_rest := goodIn_r _ [358, 106, 21, 252, 253, 254, 255, 256, 257, 258, 259, 177, 178, 179, 5, 180, 105, 136, 137, 138, 139, 22, 115, 116, 117, 118, 119, 359, 360, 361, 362, 363, 260, 261, 262, 263, 264, 265, 266, 267, 268, 269, 270, 271, 272, 273, 274, 275, 276, 277, 278, 279, 280, 281, 327, 328, 329, 330, 331, 181, 182, 183, 184, 185, 132, 133, 134, 135, 120, 121, 122, 123, 124, 125, 126, 127, 495, 496, 497, 498, 499, 500, 501] (by decide +kernel) (by decide +kernel)
set_option maxRecDepth 20000 in
theorem gL_law_X3_rest : GoodIn wsL_law (wsV RL 91 RX3 yX3_rest wsX3_rest) := goodIn_app (goodIn_of _ (by decide +kernel)) ggL_law_X3_rest
set_option maxRecDepth 20000 in
theorem ggL_law_L_face : GoodIn wsL_law wsL_face := goodIn_ca (goodIn_r _ [366, 147, 367, 368, 369, 2, 370, 152, 154, 153, 155, 156, 157, 158, 159, 160, 15, 371, 239, 240, 48, 241, 60, 56, 57, 58, 59, 61, 161, 162, 163, 41, 164, 83, 74, 84, 85, 86, 165, 166, 167, 168, 87, 88, 89, 90, 75, 76, 91, 92, 93, 94, 95, 63, 64, 65, 66, 67, 68, 69, 96, 97, 98, 99, 100, 502, 503, 504, 505, 506, 507, 508, 509, 490, 491, 492, 493, 494] (by decide +kernel) (by decide +kernel)) (goodIn_sub (fun _ h => List.mem_append_right _ h) (by decide +kernel))
set_option maxRecDepth 20000 in
theorem gL_law_L_face : GoodIn wsL_law (va_wsS RL 92 yL_face wsL_face) := goodIn_app (goodIn_of _ (by decide +kernel)) ggL_law_L_face
set_option maxRecDepth 20000 in
theorem ggL_law_X3_face : GoodIn wsL_law wsX3_face := goodIn_r _ [375, 21, 177, 178, 179, 5, 180, 105, 106, 136, 137, 138, 139, 22, 115, 116, 117, 118, 119, 327, 328, 329, 330, 331, 181, 182, 183, 184, 185, 132, 133, 134, 135, 120, 121, 122, 123, 124, 125, 126, 127, 495, 496, 497, 498, 499, 500, 501] (by decide +kernel) (by decide +kernel)
set_option maxRecDepth 20000 in
theorem gL_law_X3_face : GoodIn wsL_law (wsV RL 94 RX3 yX3_face wsX3_face) := goodIn_app (goodIn_of _ (by decide +kernel)) ggL_law_X3_face
set_option maxRecDepth 20000 in
theorem ggL_law_L_read : GoodIn wsL_law wsL_read := goodIn_ca (goodIn_ca (goodIn_r _ [378, 147, 27, 379, 380, 381, 2, 382, 33, 34, 154, 383, 384, 385, 386, 387, 289, 152, 155, 156, 157, 158, 159, 160, 15, 290, 57, 58, 48, 59, 60, 61, 388, 389, 390, 391, 347, 56, 238, 239, 240, 241, 502, 503, 504, 505, 506, 507, 508, 509, 490, 491, 492, 493, 494] (by decide +kernel) (by decide +kernel)) (goodIn_sub (fun _ h => List.mem_append_left _ (List.mem_append_left _ (List.mem_append_right _ h))) (by decide +kernel))) (goodIn_sub (fun _ h => List.mem_append_right _ h) (by decide +kernel))
set_option maxRecDepth 20000 in
theorem gL_law_L_read : GoodIn wsL_law (va_wsS RL 95 yL_read wsL_read) := goodIn_app (goodIn_of _ (by decide +kernel)) ggL_law_L_read
set_option maxRecDepth 20000 in
theorem ggL_law_X3_read : GoodIn wsL_law wsX3_read := goodIn_r _ [395, 106, 21, 396, 397, 177, 178, 179, 5, 180, 105, 136, 137, 138, 139, 22, 115, 116, 117, 118, 119, 321, 322, 323, 327, 328, 329, 330, 331, 495, 496, 497, 498, 499, 500, 501] (by decide +kernel) (by decide +kernel)
set_option maxRecDepth 20000 in
theorem gL_law_X3_read : GoodIn wsL_law (wsV RL 97 RX3 yX3_read wsX3_read) := goodIn_app (goodIn_of _ (by decide +kernel)) ggL_law_X3_read
set_option maxRecDepth 20000 in
theorem ggL_law_L_between : GoodIn wsL_law wsL_between := goodIn_ca (goodIn_ca (goodIn_r _ [400, 147, 27, 401, 402, 403, 2, 404, 33, 34, 152, 154, 405, 406, 167, 407, 408, 166, 168, 155, 156, 157, 158, 159, 160, 15, 409, 97, 98, 48, 99, 95, 63, 64, 65, 66, 67, 68, 69, 60, 61, 410, 92, 93, 94, 290, 57, 58, 59, 502, 503, 504, 505, 506, 507, 508, 509, 490, 491, 492, 493, 494] (by decide +kernel) (by decide +kernel)) (goodIn_sub (fun _ h => List.mem_append_left _ (List.mem_append_left _ (List.mem_append_right _ h))) (by decide +kernel))) (goodIn_sub (fun _ h => List.mem_append_right _ h) (by decide +kernel))
set_option maxRecDepth 20000 in
theorem gL_law_L_between : GoodIn wsL_law (va_wsS RL 98 yL_between wsL_between) := goodIn_app (goodIn_of _ (by decide +kernel)) ggL_law_L_between
set_option maxRecDepth 20000 in
theorem ggL_law_X3_between : GoodIn wsL_law wsX3_between := goodIn_r _ [414, 21, 106, 177, 178, 179, 5, 180, 105, 136, 137, 138, 139, 22, 115, 116, 117, 118, 119, 120, 121, 122, 123, 495, 496, 497, 498, 499, 500, 501] (by decide +kernel) (by decide +kernel)
set_option maxRecDepth 20000 in
theorem gL_law_X3_between : GoodIn wsL_law (wsV RL 101 RX3 yX3_between wsX3_between) := goodIn_app (goodIn_of _ (by decide +kernel)) ggL_law_X3_between
set_option maxRecDepth 20000 in
theorem ggL_law_L_order : GoodIn wsL_law wsL_order := goodIn_ca (goodIn_r _ [417, 147, 418, 419, 420, 2, 421, 37, 155, 156, 157, 158, 159, 160, 15, 422, 423, 424, 41, 425, 74, 426, 83, 427, 428, 48, 429, 50, 55, 430, 213, 229, 56, 57, 58, 59, 60, 61, 209, 210, 211, 212, 214, 215, 167, 216, 217, 218, 219, 220, 221, 225, 226, 227, 228, 222, 223, 224, 230, 231, 232, 233, 234, 235, 236, 237, 238, 239, 240, 241, 62, 63, 64, 65, 66, 67, 68, 69, 490, 491, 492, 493, 494, 502, 503, 504, 505, 506, 507, 508, 509] (by decide +kernel) (by decide +kernel)) (goodIn_sub (fun _ h => List.mem_append_right _ h) (by decide +kernel))
set_option maxRecDepth 20000 in
theorem gL_law_L_order : GoodIn wsL_law (va_wsS RL 102 yL_order wsL_order) := goodIn_app (goodIn_of _ (by decide +kernel)) ggL_law_L_order
set_option maxRecDepth 20000 in
theorem ggL_law_X3_order : GoodIn wsL_law wsX3_order := goodIn_r _ [434, 21, 177, 178, 179, 5, 180, 105, 106, 136, 137, 138, 139, 22, 435, 436, 437, 256, 257, 258, 259, 260, 261, 262, 263, 264, 265, 266, 255, 267, 268, 269, 270, 120, 121, 122, 123, 115, 116, 117, 118, 119, 495, 496, 497, 498, 499, 500, 501] (by decide +kernel) (by decide +kernel)
set_option maxRecDepth 20000 in
theorem gL_law_X3_order : GoodIn wsL_law (wsV RL 104 RX3 yX3_order wsX3_order) := goodIn_app (goodIn_of _ (by decide +kernel)) ggL_law_X3_order
set_option maxRecDepth 20000 in
theorem ggL_law_L_back : GoodIn wsL_law wsL_back := goodIn_ca (goodIn_r _ [440, 147, 441, 442, 443, 2, 444, 155, 156, 157, 158, 159, 160, 15, 445, 80, 81, 41, 82, 83, 84, 85, 74, 86, 87, 88, 89, 90, 75, 76, 91, 92, 93, 48, 94, 95, 63, 64, 65, 66, 67, 68, 69, 60, 61, 96, 97, 98, 99, 100, 57, 58, 59, 490, 491, 492, 493, 494, 502, 503, 504, 505, 506, 507, 508, 509] (by decide +kernel) (by decide +kernel)) (goodIn_sub (fun _ h => List.mem_append_right _ h) (by decide +kernel))
set_option maxRecDepth 20000 in
theorem gL_law_L_back : GoodIn wsL_law (va_wsS RL 105 yL_back wsL_back) := goodIn_app (goodIn_of _ (by decide +kernel)) ggL_law_L_back
set_option maxRecDepth 20000 in
theorem ggL_law_X3_back : GoodIn wsL_law wsX3_back := goodIn_r _ [449, 177, 178, 179, 5, 180, 105, 106, 128, 129, 130, 131, 21, 132, 133, 134, 135, 120, 121, 122, 123, 115, 116, 117, 118, 119, 136, 137, 138, 139, 22, 124, 125, 126, 127, 495, 496, 497, 498, 499, 500, 501] (by decide +kernel) (by decide +kernel)
set_option maxRecDepth 20000 in
theorem gL_law_X3_back : GoodIn wsL_law (wsV RL 108 RX3 yX3_back wsX3_back) := goodIn_app (goodIn_of _ (by decide +kernel)) ggL_law_X3_back
set_option maxRecDepth 20000 in
theorem ggL_law_L_tally : GoodIn wsL_law wsL_tally := goodIn_ca (goodIn_r _ [452, 27, 453, 454, 455, 2, 456, 33, 34, 457, 458, 459, 460, 461, 408, 166, 167, 168, 405, 406, 407, 462, 463, 464, 490, 491, 492, 493, 494] (by decide +kernel) (by decide +kernel)) (goodIn_sub (fun _ h => List.mem_append_left _ (List.mem_append_left _ (List.mem_append_right _ h))) (by decide +kernel))
set_option maxRecDepth 20000 in
theorem gL_law_L_tally : GoodIn wsL_law (va_wsS RL 109 yL_tally wsL_tally) := goodIn_app (goodIn_of _ (by decide +kernel)) ggL_law_L_tally
set_option maxRecDepth 20000 in
theorem ggL_law_X3_tally : GoodIn wsL_law wsX3_tally := goodIn_r _ [468, 106, 469, 470, 471, 472, 5, 473, 495, 496, 497, 498, 499, 500, 501] (by decide +kernel) (by decide +kernel)
end
section
set_option maxRecDepth 20000 in
theorem gL_law_X3_tally : GoodIn wsL_law (wsV RL 112 RX3 yX3_tally wsX3_tally) := goodIn_app (goodIn_of _ (by decide +kernel)) ggL_law_X3_tally
set_option maxRecDepth 20000 in
theorem ggL_law_X2_count : GoodIn wsL_law wsX2_count := goodIn_r _ [477, 39, 153, 478, 479, 480, 2, 481, 15, 482, 483, 484, 41, 485, 74, 426, 83, 75, 76, 100, 57, 58, 48, 59, 60, 61, 490, 491, 492, 493, 494, 502, 503, 504, 505, 506, 507, 508, 509] (by decide +kernel) (by decide +kernel)
set_option maxRecDepth 20000 in
theorem gL_law_X2_count : GoodIn wsL_law (wsV RL 113 RX2 yX2_count wsX2_count) := goodIn_app (goodIn_of _ (by decide +kernel)) ggL_law_X2_count
set_option maxRecDepth 20000 in
theorem ggL_law_X3_count : GoodIn wsL_law wsX3_count := goodIn_r _ [489, 106, 105, 185, 21, 136, 137, 138, 5, 139, 22, 321, 322, 323, 115, 116, 117, 118, 119, 495, 496, 497, 498, 499, 500, 501] (by decide +kernel) (by decide +kernel)
set_option maxRecDepth 20000 in
theorem gL_law_X3_count : GoodIn wsL_law (wsV RL 117 RX3 yX3_count wsX3_count) := goodIn_app (goodIn_of _ (by decide +kernel)) ggL_law_X3_count
theorem dL_law_0 : decode cL_law 0 = .ok (.new 8, 3) := by decide +kernel
theorem dL_law_3 : decode cL_law 3 = .ok (.dup, 1) := by decide +kernel
theorem dL_law_4 : decode cL_law 4 = .ok (.invokespecial 59, 3) := by decide +kernel
theorem dL_law_7 : decode cL_law 7 = .ok (.astore_n 1, 1) := by decide +kernel
theorem dL_law_8 : decode cL_law 8 = .ok (.new 60, 3) := by decide +kernel
theorem dL_law_11 : decode cL_law 11 = .ok (.dup, 1) := by decide +kernel
theorem dL_law_12 : decode cL_law 12 = .ok (.invokespecial 62, 3) := by decide +kernel
theorem dL_law_15 : decode cL_law 15 = .ok (.astore_n 2, 1) := by decide +kernel
theorem dL_law_16 : decode cL_law 16 = .ok (.iconst 1, 1) := by decide +kernel
theorem dL_law_17 : decode cL_law 17 = .ok (.newarray .long, 2) := by decide +kernel
theorem dL_law_19 : decode cL_law 19 = .ok (.astore_n 3, 1) := by decide +kernel
theorem dL_law_20 : decode cL_law 20 = .ok (.iconst 0, 1) := by decide +kernel
theorem dL_law_21 : decode cL_law 21 = .ok (.istore 4, 2) := by decide +kernel
theorem dL_law_23 : decode cL_law 23 = .ok (.iload 4, 2) := by decide +kernel
theorem dL_law_25 : decode cL_law 25 = .ok (.aload_n 0, 1) := by decide +kernel
theorem dL_law_26 : decode cL_law 26 = .ok (.arraylength, 1) := by decide +kernel
theorem dL_law_27 : decode cL_law 27 = .ok (.bipush 6, 2) := by decide +kernel
theorem dL_law_29 : decode cL_law 29 = .ok (.isub, 1) := by decide +kernel
theorem dL_law_30 : decode cL_law 30 = .ok (.if_icmp .gt 1184, 3) := by decide +kernel
theorem dL_law_33 : decode cL_law 33 = .ok (.aload_n 0, 1) := by decide +kernel
theorem dL_law_34 : decode cL_law 34 = .ok (.iload 4, 2) := by decide +kernel
theorem dL_law_36 : decode cL_law 36 = .ok (.iaload, 1) := by decide +kernel
theorem dL_law_37 : decode cL_law 37 = .ok (.bipush 15, 2) := by decide +kernel
theorem dL_law_39 : decode cL_law 39 = .ok (.iand, 1) := by decide +kernel
theorem dL_law_40 : decode cL_law 40 = .ok (.tableswitch 1168 0 12 #[68, 228, 327, 426, 525, 632, 699, 766, 833, 912, 980, 1016, 1143], 68) := by decide +kernel
theorem dL_law_108 : decode cL_law 108 = .ok (.aload_n 1, 1) := by decide +kernel
theorem dL_law_109 : decode cL_law 109 = .ok (.aload_n 0, 1) := by decide +kernel
theorem dL_law_110 : decode cL_law 110 = .ok (.iload 4, 2) := by decide +kernel
theorem dL_law_112 : decode cL_law 112 = .ok (.iconst 1, 1) := by decide +kernel
theorem dL_law_113 : decode cL_law 113 = .ok (.iadd, 1) := by decide +kernel
theorem dL_law_114 : decode cL_law 114 = .ok (.iaload, 1) := by decide +kernel
theorem dL_law_115 : decode cL_law 115 = .ok (.ifCond .eq 7, 3) := by decide +kernel
theorem dL_law_118 : decode cL_law 118 = .ok (.iconst 1, 1) := by decide +kernel
theorem dL_law_119 : decode cL_law 119 = .ok (.goto 4, 3) := by decide +kernel
theorem dL_law_122 : decode cL_law 122 = .ok (.iconst 0, 1) := by decide +kernel
theorem dL_law_123 : decode cL_law 123 = .ok (.aload_n 0, 1) := by decide +kernel
theorem dL_law_124 : decode cL_law 124 = .ok (.iload 4, 2) := by decide +kernel
theorem dL_law_126 : decode cL_law 126 = .ok (.iconst 2, 1) := by decide +kernel
theorem dL_law_127 : decode cL_law 127 = .ok (.iadd, 1) := by decide +kernel
theorem dL_law_128 : decode cL_law 128 = .ok (.iaload, 1) := by decide +kernel
theorem dL_law_129 : decode cL_law 129 = .ok (.i2l, 1) := by decide +kernel
theorem dL_law_130 : decode cL_law 130 = .ok (.bipush 32, 2) := by decide +kernel
theorem dL_law_132 : decode cL_law 132 = .ok (.lshl, 1) := by decide +kernel
theorem dL_law_133 : decode cL_law 133 = .ok (.aload_n 0, 1) := by decide +kernel
theorem dL_law_134 : decode cL_law 134 = .ok (.iload 4, 2) := by decide +kernel
theorem dL_law_136 : decode cL_law 136 = .ok (.iconst 3, 1) := by decide +kernel
theorem dL_law_137 : decode cL_law 137 = .ok (.iadd, 1) := by decide +kernel
theorem dL_law_138 : decode cL_law 138 = .ok (.iaload, 1) := by decide +kernel
theorem dL_law_139 : decode cL_law 139 = .ok (.i2l, 1) := by decide +kernel
theorem dL_law_140 : decode cL_law 140 = .ok (.ldc2_w 63, 3) := by decide +kernel
theorem dL_law_143 : decode cL_law 143 = .ok (.land, 1) := by decide +kernel
theorem dL_law_144 : decode cL_law 144 = .ok (.lor, 1) := by decide +kernel
theorem dL_law_145 : decode cL_law 145 = .ok (.aload_n 0, 1) := by decide +kernel
theorem dL_law_146 : decode cL_law 146 = .ok (.iload 4, 2) := by decide +kernel
theorem dL_law_148 : decode cL_law 148 = .ok (.iconst 4, 1) := by decide +kernel
theorem dL_law_149 : decode cL_law 149 = .ok (.iadd, 1) := by decide +kernel
theorem dL_law_150 : decode cL_law 150 = .ok (.iaload, 1) := by decide +kernel
theorem dL_law_151 : decode cL_law 151 = .ok (.i2l, 1) := by decide +kernel
theorem dL_law_152 : decode cL_law 152 = .ok (.bipush 32, 2) := by decide +kernel
theorem dL_law_154 : decode cL_law 154 = .ok (.lshl, 1) := by decide +kernel
theorem dL_law_155 : decode cL_law 155 = .ok (.aload_n 0, 1) := by decide +kernel
theorem dL_law_156 : decode cL_law 156 = .ok (.iload 4, 2) := by decide +kernel
theorem dL_law_158 : decode cL_law 158 = .ok (.iconst 5, 1) := by decide +kernel
theorem dL_law_159 : decode cL_law 159 = .ok (.iadd, 1) := by decide +kernel
theorem dL_law_160 : decode cL_law 160 = .ok (.iaload, 1) := by decide +kernel
theorem dL_law_161 : decode cL_law 161 = .ok (.i2l, 1) := by decide +kernel
theorem dL_law_162 : decode cL_law 162 = .ok (.ldc2_w 63, 3) := by decide +kernel
theorem dL_law_165 : decode cL_law 165 = .ok (.land, 1) := by decide +kernel
theorem dL_law_166 : decode cL_law 166 = .ok (.lor, 1) := by decide +kernel
theorem dL_law_167 : decode cL_law 167 = .ok (.aload_n 3, 1) := by decide +kernel
theorem dL_law_168 : decode cL_law 168 = .ok (.invokestatic 65, 3) := by decide +kernel
theorem dL_law_171 : decode cL_law 171 = .ok (.istore 5, 2) := by decide +kernel
theorem dL_law_173 : decode cL_law 173 = .ok (.aload_n 2, 1) := by decide +kernel
theorem dL_law_174 : decode cL_law 174 = .ok (.aload_n 0, 1) := by decide +kernel
theorem dL_law_175 : decode cL_law 175 = .ok (.iload 4, 2) := by decide +kernel
theorem dL_law_177 : decode cL_law 177 = .ok (.iconst 1, 1) := by decide +kernel
theorem dL_law_178 : decode cL_law 178 = .ok (.iadd, 1) := by decide +kernel
theorem dL_law_179 : decode cL_law 179 = .ok (.iaload, 1) := by decide +kernel
theorem dL_law_180 : decode cL_law 180 = .ok (.ifCond .eq 7, 3) := by decide +kernel
theorem dL_law_183 : decode cL_law 183 = .ok (.iconst 1, 1) := by decide +kernel
theorem dL_law_184 : decode cL_law 184 = .ok (.goto 4, 3) := by decide +kernel
theorem dL_law_187 : decode cL_law 187 = .ok (.iconst 0, 1) := by decide +kernel
theorem dL_law_188 : decode cL_law 188 = .ok (.aload_n 0, 1) := by decide +kernel
theorem dL_law_189 : decode cL_law 189 = .ok (.iload 4, 2) := by decide +kernel
theorem dL_law_191 : decode cL_law 191 = .ok (.iconst 2, 1) := by decide +kernel
theorem dL_law_192 : decode cL_law 192 = .ok (.iadd, 1) := by decide +kernel
theorem dL_law_193 : decode cL_law 193 = .ok (.iaload, 1) := by decide +kernel
theorem dL_law_194 : decode cL_law 194 = .ok (.i2l, 1) := by decide +kernel
theorem dL_law_195 : decode cL_law 195 = .ok (.bipush 32, 2) := by decide +kernel
theorem dL_law_197 : decode cL_law 197 = .ok (.lshl, 1) := by decide +kernel
theorem dL_law_198 : decode cL_law 198 = .ok (.aload_n 0, 1) := by decide +kernel
theorem dL_law_199 : decode cL_law 199 = .ok (.iload 4, 2) := by decide +kernel
theorem dL_law_201 : decode cL_law 201 = .ok (.iconst 3, 1) := by decide +kernel
theorem dL_law_202 : decode cL_law 202 = .ok (.iadd, 1) := by decide +kernel
theorem dL_law_203 : decode cL_law 203 = .ok (.iaload, 1) := by decide +kernel
theorem dL_law_204 : decode cL_law 204 = .ok (.i2l, 1) := by decide +kernel
theorem dL_law_205 : decode cL_law 205 = .ok (.ldc2_w 63, 3) := by decide +kernel
theorem dL_law_208 : decode cL_law 208 = .ok (.land, 1) := by decide +kernel
theorem dL_law_209 : decode cL_law 209 = .ok (.lor, 1) := by decide +kernel
theorem dL_law_210 : decode cL_law 210 = .ok (.aload_n 0, 1) := by decide +kernel
theorem dL_law_211 : decode cL_law 211 = .ok (.iload 4, 2) := by decide +kernel
theorem dL_law_213 : decode cL_law 213 = .ok (.iconst 4, 1) := by decide +kernel
theorem dL_law_214 : decode cL_law 214 = .ok (.iadd, 1) := by decide +kernel
theorem dL_law_215 : decode cL_law 215 = .ok (.iaload, 1) := by decide +kernel
theorem dL_law_216 : decode cL_law 216 = .ok (.i2l, 1) := by decide +kernel
theorem dL_law_217 : decode cL_law 217 = .ok (.bipush 32, 2) := by decide +kernel
theorem dL_law_219 : decode cL_law 219 = .ok (.lshl, 1) := by decide +kernel
theorem dL_law_220 : decode cL_law 220 = .ok (.aload_n 0, 1) := by decide +kernel
theorem dL_law_221 : decode cL_law 221 = .ok (.iload 4, 2) := by decide +kernel
theorem dL_law_223 : decode cL_law 223 = .ok (.iconst 5, 1) := by decide +kernel
theorem dL_law_224 : decode cL_law 224 = .ok (.iadd, 1) := by decide +kernel
theorem dL_law_225 : decode cL_law 225 = .ok (.iaload, 1) := by decide +kernel
theorem dL_law_226 : decode cL_law 226 = .ok (.i2l, 1) := by decide +kernel
theorem dL_law_227 : decode cL_law 227 = .ok (.ldc2_w 63, 3) := by decide +kernel
theorem dL_law_230 : decode cL_law 230 = .ok (.land, 1) := by decide +kernel
theorem dL_law_231 : decode cL_law 231 = .ok (.lor, 1) := by decide +kernel
theorem dL_law_232 : decode cL_law 232 = .ok (.invokevirtual 70, 3) := by decide +kernel
theorem dL_law_235 : decode cL_law 235 = .ok (.istore 6, 2) := by decide +kernel
theorem dL_law_237 : decode cL_law 237 = .ok (.aload_n 2, 1) := by decide +kernel
theorem dL_law_238 : decode cL_law 238 = .ok (.invokevirtual 71, 3) := by decide +kernel
theorem dL_law_241 : decode cL_law 241 = .ok (.iload 5, 2) := by decide +kernel
theorem dL_law_243 : decode cL_law 243 = .ok (.if_icmp .eq 5, 3) := by decide +kernel
theorem dL_law_246 : decode cL_law 246 = .ok (.iconst 0, 1) := by decide +kernel
theorem dL_law_247 : decode cL_law 247 = .ok (.ireturn, 1) := by decide +kernel
theorem dL_law_248 : decode cL_law 248 = .ok (.iload 5, 2) := by decide +kernel
theorem dL_law_250 : decode cL_law 250 = .ok (.ifCond .ne 15, 3) := by decide +kernel
theorem dL_law_253 : decode cL_law 253 = .ok (.aload_n 3, 1) := by decide +kernel
theorem dL_law_254 : decode cL_law 254 = .ok (.iconst 0, 1) := by decide +kernel
theorem dL_law_255 : decode cL_law 255 = .ok (.laload, 1) := by decide +kernel
theorem dL_law_256 : decode cL_law 256 = .ok (.iload 6, 2) := by decide +kernel
theorem dL_law_258 : decode cL_law 258 = .ok (.i2l, 1) := by decide +kernel
theorem dL_law_259 : decode cL_law 259 = .ok (.lcmp, 1) := by decide +kernel
theorem dL_law_260 : decode cL_law 260 = .ok (.ifCond .eq 5, 3) := by decide +kernel
theorem dL_law_263 : decode cL_law 263 = .ok (.iconst 0, 1) := by decide +kernel
theorem dL_law_264 : decode cL_law 264 = .ok (.ireturn, 1) := by decide +kernel
theorem dL_law_265 : decode cL_law 265 = .ok (.goto 943, 3) := by decide +kernel
theorem dL_law_268 : decode cL_law 268 = .ok (.aload_n 1, 1) := by decide +kernel
theorem dL_law_269 : decode cL_law 269 = .ok (.aload_n 0, 1) := by decide +kernel
theorem dL_law_270 : decode cL_law 270 = .ok (.iload 4, 2) := by decide +kernel
theorem dL_law_272 : decode cL_law 272 = .ok (.iconst 1, 1) := by decide +kernel
theorem dL_law_273 : decode cL_law 273 = .ok (.iadd, 1) := by decide +kernel
theorem dL_law_274 : decode cL_law 274 = .ok (.iaload, 1) := by decide +kernel
theorem dL_law_275 : decode cL_law 275 = .ok (.aload_n 0, 1) := by decide +kernel
theorem dL_law_276 : decode cL_law 276 = .ok (.iload 4, 2) := by decide +kernel
theorem dL_law_278 : decode cL_law 278 = .ok (.iconst 2, 1) := by decide +kernel
theorem dL_law_279 : decode cL_law 279 = .ok (.iadd, 1) := by decide +kernel
theorem dL_law_280 : decode cL_law 280 = .ok (.iaload, 1) := by decide +kernel
theorem dL_law_281 : decode cL_law 281 = .ok (.i2l, 1) := by decide +kernel
theorem dL_law_282 : decode cL_law 282 = .ok (.bipush 32, 2) := by decide +kernel
theorem dL_law_284 : decode cL_law 284 = .ok (.lshl, 1) := by decide +kernel
theorem dL_law_285 : decode cL_law 285 = .ok (.aload_n 0, 1) := by decide +kernel
theorem dL_law_286 : decode cL_law 286 = .ok (.iload 4, 2) := by decide +kernel
theorem dL_law_288 : decode cL_law 288 = .ok (.iconst 3, 1) := by decide +kernel
theorem dL_law_289 : decode cL_law 289 = .ok (.iadd, 1) := by decide +kernel
theorem dL_law_290 : decode cL_law 290 = .ok (.iaload, 1) := by decide +kernel
theorem dL_law_291 : decode cL_law 291 = .ok (.i2l, 1) := by decide +kernel
theorem dL_law_292 : decode cL_law 292 = .ok (.ldc2_w 63, 3) := by decide +kernel
theorem dL_law_295 : decode cL_law 295 = .ok (.land, 1) := by decide +kernel
theorem dL_law_296 : decode cL_law 296 = .ok (.lor, 1) := by decide +kernel
theorem dL_law_297 : decode cL_law 297 = .ok (.aload_n 3, 1) := by decide +kernel
theorem dL_law_298 : decode cL_law 298 = .ok (.invokestatic 75, 3) := by decide +kernel
theorem dL_law_301 : decode cL_law 301 = .ok (.istore 5, 2) := by decide +kernel
theorem dL_law_303 : decode cL_law 303 = .ok (.aload_n 2, 1) := by decide +kernel
theorem dL_law_304 : decode cL_law 304 = .ok (.aload_n 0, 1) := by decide +kernel
theorem dL_law_305 : decode cL_law 305 = .ok (.iload 4, 2) := by decide +kernel
theorem dL_law_307 : decode cL_law 307 = .ok (.iconst 1, 1) := by decide +kernel
theorem dL_law_308 : decode cL_law 308 = .ok (.iadd, 1) := by decide +kernel
theorem dL_law_309 : decode cL_law 309 = .ok (.iaload, 1) := by decide +kernel
theorem dL_law_310 : decode cL_law 310 = .ok (.aload_n 0, 1) := by decide +kernel
theorem dL_law_311 : decode cL_law 311 = .ok (.iload 4, 2) := by decide +kernel
theorem dL_law_313 : decode cL_law 313 = .ok (.iconst 2, 1) := by decide +kernel
theorem dL_law_314 : decode cL_law 314 = .ok (.iadd, 1) := by decide +kernel
theorem dL_law_315 : decode cL_law 315 = .ok (.iaload, 1) := by decide +kernel
theorem dL_law_316 : decode cL_law 316 = .ok (.i2l, 1) := by decide +kernel
theorem dL_law_317 : decode cL_law 317 = .ok (.bipush 32, 2) := by decide +kernel
theorem dL_law_319 : decode cL_law 319 = .ok (.lshl, 1) := by decide +kernel
theorem dL_law_320 : decode cL_law 320 = .ok (.aload_n 0, 1) := by decide +kernel
theorem dL_law_321 : decode cL_law 321 = .ok (.iload 4, 2) := by decide +kernel
theorem dL_law_323 : decode cL_law 323 = .ok (.iconst 3, 1) := by decide +kernel
theorem dL_law_324 : decode cL_law 324 = .ok (.iadd, 1) := by decide +kernel
theorem dL_law_325 : decode cL_law 325 = .ok (.iaload, 1) := by decide +kernel
theorem dL_law_326 : decode cL_law 326 = .ok (.i2l, 1) := by decide +kernel
theorem dL_law_327 : decode cL_law 327 = .ok (.ldc2_w 63, 3) := by decide +kernel
theorem dL_law_330 : decode cL_law 330 = .ok (.land, 1) := by decide +kernel
theorem dL_law_331 : decode cL_law 331 = .ok (.lor, 1) := by decide +kernel
theorem dL_law_332 : decode cL_law 332 = .ok (.invokevirtual 78, 3) := by decide +kernel
theorem dL_law_335 : decode cL_law 335 = .ok (.lstore 6, 2) := by decide +kernel
theorem dL_law_337 : decode cL_law 337 = .ok (.aload_n 2, 1) := by decide +kernel
theorem dL_law_338 : decode cL_law 338 = .ok (.invokevirtual 71, 3) := by decide +kernel
theorem dL_law_341 : decode cL_law 341 = .ok (.iload 5, 2) := by decide +kernel
theorem dL_law_343 : decode cL_law 343 = .ok (.if_icmp .eq 5, 3) := by decide +kernel
theorem dL_law_346 : decode cL_law 346 = .ok (.iconst 0, 1) := by decide +kernel
theorem dL_law_347 : decode cL_law 347 = .ok (.ireturn, 1) := by decide +kernel
theorem dL_law_348 : decode cL_law 348 = .ok (.iload 5, 2) := by decide +kernel
theorem dL_law_350 : decode cL_law 350 = .ok (.ifCond .ne 14, 3) := by decide +kernel
theorem dL_law_353 : decode cL_law 353 = .ok (.aload_n 3, 1) := by decide +kernel
theorem dL_law_354 : decode cL_law 354 = .ok (.iconst 0, 1) := by decide +kernel
theorem dL_law_355 : decode cL_law 355 = .ok (.laload, 1) := by decide +kernel
theorem dL_law_356 : decode cL_law 356 = .ok (.lload 6, 2) := by decide +kernel
theorem dL_law_358 : decode cL_law 358 = .ok (.lcmp, 1) := by decide +kernel
theorem dL_law_359 : decode cL_law 359 = .ok (.ifCond .eq 5, 3) := by decide +kernel
theorem dL_law_362 : decode cL_law 362 = .ok (.iconst 0, 1) := by decide +kernel
theorem dL_law_363 : decode cL_law 363 = .ok (.ireturn, 1) := by decide +kernel
theorem dL_law_364 : decode cL_law 364 = .ok (.goto 844, 3) := by decide +kernel
theorem dL_law_367 : decode cL_law 367 = .ok (.aload_n 1, 1) := by decide +kernel
theorem dL_law_368 : decode cL_law 368 = .ok (.aload_n 0, 1) := by decide +kernel
theorem dL_law_369 : decode cL_law 369 = .ok (.iload 4, 2) := by decide +kernel
theorem dL_law_371 : decode cL_law 371 = .ok (.iconst 1, 1) := by decide +kernel
theorem dL_law_372 : decode cL_law 372 = .ok (.iadd, 1) := by decide +kernel
theorem dL_law_373 : decode cL_law 373 = .ok (.iaload, 1) := by decide +kernel
theorem dL_law_374 : decode cL_law 374 = .ok (.aload_n 0, 1) := by decide +kernel
theorem dL_law_375 : decode cL_law 375 = .ok (.iload 4, 2) := by decide +kernel
theorem dL_law_377 : decode cL_law 377 = .ok (.iconst 2, 1) := by decide +kernel
theorem dL_law_378 : decode cL_law 378 = .ok (.iadd, 1) := by decide +kernel
theorem dL_law_379 : decode cL_law 379 = .ok (.iaload, 1) := by decide +kernel
theorem dL_law_380 : decode cL_law 380 = .ok (.i2l, 1) := by decide +kernel
theorem dL_law_381 : decode cL_law 381 = .ok (.bipush 32, 2) := by decide +kernel
theorem dL_law_383 : decode cL_law 383 = .ok (.lshl, 1) := by decide +kernel
theorem dL_law_384 : decode cL_law 384 = .ok (.aload_n 0, 1) := by decide +kernel
theorem dL_law_385 : decode cL_law 385 = .ok (.iload 4, 2) := by decide +kernel
theorem dL_law_387 : decode cL_law 387 = .ok (.iconst 3, 1) := by decide +kernel
theorem dL_law_388 : decode cL_law 388 = .ok (.iadd, 1) := by decide +kernel
theorem dL_law_389 : decode cL_law 389 = .ok (.iaload, 1) := by decide +kernel
theorem dL_law_390 : decode cL_law 390 = .ok (.i2l, 1) := by decide +kernel
theorem dL_law_391 : decode cL_law 391 = .ok (.ldc2_w 63, 3) := by decide +kernel
theorem dL_law_394 : decode cL_law 394 = .ok (.land, 1) := by decide +kernel
theorem dL_law_395 : decode cL_law 395 = .ok (.lor, 1) := by decide +kernel
theorem dL_law_396 : decode cL_law 396 = .ok (.aload_n 3, 1) := by decide +kernel
theorem dL_law_397 : decode cL_law 397 = .ok (.invokestatic 79, 3) := by decide +kernel
theorem dL_law_400 : decode cL_law 400 = .ok (.istore 5, 2) := by decide +kernel
theorem dL_law_402 : decode cL_law 402 = .ok (.aload_n 2, 1) := by decide +kernel
theorem dL_law_403 : decode cL_law 403 = .ok (.aload_n 0, 1) := by decide +kernel
theorem dL_law_404 : decode cL_law 404 = .ok (.iload 4, 2) := by decide +kernel
theorem dL_law_406 : decode cL_law 406 = .ok (.iconst 1, 1) := by decide +kernel
theorem dL_law_407 : decode cL_law 407 = .ok (.iadd, 1) := by decide +kernel
theorem dL_law_408 : decode cL_law 408 = .ok (.iaload, 1) := by decide +kernel
theorem dL_law_409 : decode cL_law 409 = .ok (.aload_n 0, 1) := by decide +kernel
theorem dL_law_410 : decode cL_law 410 = .ok (.iload 4, 2) := by decide +kernel
theorem dL_law_412 : decode cL_law 412 = .ok (.iconst 2, 1) := by decide +kernel
theorem dL_law_413 : decode cL_law 413 = .ok (.iadd, 1) := by decide +kernel
theorem dL_law_414 : decode cL_law 414 = .ok (.iaload, 1) := by decide +kernel
theorem dL_law_415 : decode cL_law 415 = .ok (.i2l, 1) := by decide +kernel
theorem dL_law_416 : decode cL_law 416 = .ok (.bipush 32, 2) := by decide +kernel
theorem dL_law_418 : decode cL_law 418 = .ok (.lshl, 1) := by decide +kernel
theorem dL_law_419 : decode cL_law 419 = .ok (.aload_n 0, 1) := by decide +kernel
theorem dL_law_420 : decode cL_law 420 = .ok (.iload 4, 2) := by decide +kernel
theorem dL_law_422 : decode cL_law 422 = .ok (.iconst 3, 1) := by decide +kernel
theorem dL_law_423 : decode cL_law 423 = .ok (.iadd, 1) := by decide +kernel
theorem dL_law_424 : decode cL_law 424 = .ok (.iaload, 1) := by decide +kernel
theorem dL_law_425 : decode cL_law 425 = .ok (.i2l, 1) := by decide +kernel
theorem dL_law_426 : decode cL_law 426 = .ok (.ldc2_w 63, 3) := by decide +kernel
theorem dL_law_429 : decode cL_law 429 = .ok (.land, 1) := by decide +kernel
theorem dL_law_430 : decode cL_law 430 = .ok (.lor, 1) := by decide +kernel
theorem dL_law_431 : decode cL_law 431 = .ok (.invokevirtual 81, 3) := by decide +kernel
theorem dL_law_434 : decode cL_law 434 = .ok (.lstore 6, 2) := by decide +kernel
theorem dL_law_436 : decode cL_law 436 = .ok (.aload_n 2, 1) := by decide +kernel
theorem dL_law_437 : decode cL_law 437 = .ok (.invokevirtual 71, 3) := by decide +kernel
theorem dL_law_440 : decode cL_law 440 = .ok (.iload 5, 2) := by decide +kernel
theorem dL_law_442 : decode cL_law 442 = .ok (.if_icmp .eq 5, 3) := by decide +kernel
theorem dL_law_445 : decode cL_law 445 = .ok (.iconst 0, 1) := by decide +kernel
theorem dL_law_446 : decode cL_law 446 = .ok (.ireturn, 1) := by decide +kernel
theorem dL_law_447 : decode cL_law 447 = .ok (.iload 5, 2) := by decide +kernel
theorem dL_law_449 : decode cL_law 449 = .ok (.ifCond .ne 14, 3) := by decide +kernel
theorem dL_law_452 : decode cL_law 452 = .ok (.aload_n 3, 1) := by decide +kernel
theorem dL_law_453 : decode cL_law 453 = .ok (.iconst 0, 1) := by decide +kernel
theorem dL_law_454 : decode cL_law 454 = .ok (.laload, 1) := by decide +kernel
theorem dL_law_455 : decode cL_law 455 = .ok (.lload 6, 2) := by decide +kernel
theorem dL_law_457 : decode cL_law 457 = .ok (.lcmp, 1) := by decide +kernel
theorem dL_law_458 : decode cL_law 458 = .ok (.ifCond .eq 5, 3) := by decide +kernel
theorem dL_law_461 : decode cL_law 461 = .ok (.iconst 0, 1) := by decide +kernel
theorem dL_law_462 : decode cL_law 462 = .ok (.ireturn, 1) := by decide +kernel
theorem dL_law_463 : decode cL_law 463 = .ok (.goto 745, 3) := by decide +kernel
theorem dL_law_466 : decode cL_law 466 = .ok (.aload_n 1, 1) := by decide +kernel
theorem dL_law_467 : decode cL_law 467 = .ok (.aload_n 0, 1) := by decide +kernel
theorem dL_law_468 : decode cL_law 468 = .ok (.iload 4, 2) := by decide +kernel
theorem dL_law_470 : decode cL_law 470 = .ok (.iconst 1, 1) := by decide +kernel
theorem dL_law_471 : decode cL_law 471 = .ok (.iadd, 1) := by decide +kernel
theorem dL_law_472 : decode cL_law 472 = .ok (.iaload, 1) := by decide +kernel
theorem dL_law_473 : decode cL_law 473 = .ok (.aload_n 0, 1) := by decide +kernel
theorem dL_law_474 : decode cL_law 474 = .ok (.iload 4, 2) := by decide +kernel
theorem dL_law_476 : decode cL_law 476 = .ok (.iconst 2, 1) := by decide +kernel
theorem dL_law_477 : decode cL_law 477 = .ok (.iadd, 1) := by decide +kernel
theorem dL_law_478 : decode cL_law 478 = .ok (.iaload, 1) := by decide +kernel
theorem dL_law_479 : decode cL_law 479 = .ok (.i2l, 1) := by decide +kernel
theorem dL_law_480 : decode cL_law 480 = .ok (.bipush 32, 2) := by decide +kernel
theorem dL_law_482 : decode cL_law 482 = .ok (.lshl, 1) := by decide +kernel
theorem dL_law_483 : decode cL_law 483 = .ok (.aload_n 0, 1) := by decide +kernel
theorem dL_law_484 : decode cL_law 484 = .ok (.iload 4, 2) := by decide +kernel
theorem dL_law_486 : decode cL_law 486 = .ok (.iconst 3, 1) := by decide +kernel
theorem dL_law_487 : decode cL_law 487 = .ok (.iadd, 1) := by decide +kernel
theorem dL_law_488 : decode cL_law 488 = .ok (.iaload, 1) := by decide +kernel
theorem dL_law_489 : decode cL_law 489 = .ok (.i2l, 1) := by decide +kernel
theorem dL_law_490 : decode cL_law 490 = .ok (.ldc2_w 63, 3) := by decide +kernel
theorem dL_law_493 : decode cL_law 493 = .ok (.land, 1) := by decide +kernel
theorem dL_law_494 : decode cL_law 494 = .ok (.lor, 1) := by decide +kernel
theorem dL_law_495 : decode cL_law 495 = .ok (.aload_n 3, 1) := by decide +kernel
theorem dL_law_496 : decode cL_law 496 = .ok (.invokestatic 82, 3) := by decide +kernel
theorem dL_law_499 : decode cL_law 499 = .ok (.istore 5, 2) := by decide +kernel
theorem dL_law_501 : decode cL_law 501 = .ok (.aload_n 2, 1) := by decide +kernel
theorem dL_law_502 : decode cL_law 502 = .ok (.aload_n 0, 1) := by decide +kernel
theorem dL_law_503 : decode cL_law 503 = .ok (.iload 4, 2) := by decide +kernel
theorem dL_law_505 : decode cL_law 505 = .ok (.iconst 1, 1) := by decide +kernel
theorem dL_law_506 : decode cL_law 506 = .ok (.iadd, 1) := by decide +kernel
theorem dL_law_507 : decode cL_law 507 = .ok (.iaload, 1) := by decide +kernel
theorem dL_law_508 : decode cL_law 508 = .ok (.aload_n 0, 1) := by decide +kernel
theorem dL_law_509 : decode cL_law 509 = .ok (.iload 4, 2) := by decide +kernel
theorem dL_law_511 : decode cL_law 511 = .ok (.iconst 2, 1) := by decide +kernel
theorem dL_law_512 : decode cL_law 512 = .ok (.iadd, 1) := by decide +kernel
theorem dL_law_513 : decode cL_law 513 = .ok (.iaload, 1) := by decide +kernel
theorem dL_law_514 : decode cL_law 514 = .ok (.i2l, 1) := by decide +kernel
theorem dL_law_515 : decode cL_law 515 = .ok (.bipush 32, 2) := by decide +kernel
theorem dL_law_517 : decode cL_law 517 = .ok (.lshl, 1) := by decide +kernel
theorem dL_law_518 : decode cL_law 518 = .ok (.aload_n 0, 1) := by decide +kernel
theorem dL_law_519 : decode cL_law 519 = .ok (.iload 4, 2) := by decide +kernel
theorem dL_law_521 : decode cL_law 521 = .ok (.iconst 3, 1) := by decide +kernel
theorem dL_law_522 : decode cL_law 522 = .ok (.iadd, 1) := by decide +kernel
theorem dL_law_523 : decode cL_law 523 = .ok (.iaload, 1) := by decide +kernel
theorem dL_law_524 : decode cL_law 524 = .ok (.i2l, 1) := by decide +kernel
theorem dL_law_525 : decode cL_law 525 = .ok (.ldc2_w 63, 3) := by decide +kernel
theorem dL_law_528 : decode cL_law 528 = .ok (.land, 1) := by decide +kernel
theorem dL_law_529 : decode cL_law 529 = .ok (.lor, 1) := by decide +kernel
theorem dL_law_530 : decode cL_law 530 = .ok (.invokevirtual 84, 3) := by decide +kernel
theorem dL_law_533 : decode cL_law 533 = .ok (.lstore 6, 2) := by decide +kernel
theorem dL_law_535 : decode cL_law 535 = .ok (.aload_n 2, 1) := by decide +kernel
theorem dL_law_536 : decode cL_law 536 = .ok (.invokevirtual 71, 3) := by decide +kernel
theorem dL_law_539 : decode cL_law 539 = .ok (.iload 5, 2) := by decide +kernel
theorem dL_law_541 : decode cL_law 541 = .ok (.if_icmp .eq 5, 3) := by decide +kernel
theorem dL_law_544 : decode cL_law 544 = .ok (.iconst 0, 1) := by decide +kernel
theorem dL_law_545 : decode cL_law 545 = .ok (.ireturn, 1) := by decide +kernel
theorem dL_law_546 : decode cL_law 546 = .ok (.iload 5, 2) := by decide +kernel
theorem dL_law_548 : decode cL_law 548 = .ok (.ifCond .ne 14, 3) := by decide +kernel
theorem dL_law_551 : decode cL_law 551 = .ok (.aload_n 3, 1) := by decide +kernel
theorem dL_law_552 : decode cL_law 552 = .ok (.iconst 0, 1) := by decide +kernel
theorem dL_law_553 : decode cL_law 553 = .ok (.laload, 1) := by decide +kernel
theorem dL_law_554 : decode cL_law 554 = .ok (.lload 6, 2) := by decide +kernel
theorem dL_law_556 : decode cL_law 556 = .ok (.lcmp, 1) := by decide +kernel
theorem dL_law_557 : decode cL_law 557 = .ok (.ifCond .eq 5, 3) := by decide +kernel
theorem dL_law_560 : decode cL_law 560 = .ok (.iconst 0, 1) := by decide +kernel
theorem dL_law_561 : decode cL_law 561 = .ok (.ireturn, 1) := by decide +kernel
theorem dL_law_562 : decode cL_law 562 = .ok (.goto 646, 3) := by decide +kernel
theorem dL_law_565 : decode cL_law 565 = .ok (.aload_n 1, 1) := by decide +kernel
theorem dL_law_566 : decode cL_law 566 = .ok (.aload_n 0, 1) := by decide +kernel
theorem dL_law_567 : decode cL_law 567 = .ok (.iload 4, 2) := by decide +kernel
theorem dL_law_569 : decode cL_law 569 = .ok (.iconst 1, 1) := by decide +kernel
theorem dL_law_570 : decode cL_law 570 = .ok (.iadd, 1) := by decide +kernel
theorem dL_law_571 : decode cL_law 571 = .ok (.iaload, 1) := by decide +kernel
theorem dL_law_572 : decode cL_law 572 = .ok (.aload_n 0, 1) := by decide +kernel
theorem dL_law_573 : decode cL_law 573 = .ok (.iload 4, 2) := by decide +kernel
theorem dL_law_575 : decode cL_law 575 = .ok (.iconst 2, 1) := by decide +kernel
theorem dL_law_576 : decode cL_law 576 = .ok (.iadd, 1) := by decide +kernel
theorem dL_law_577 : decode cL_law 577 = .ok (.iaload, 1) := by decide +kernel
theorem dL_law_578 : decode cL_law 578 = .ok (.i2l, 1) := by decide +kernel
theorem dL_law_579 : decode cL_law 579 = .ok (.bipush 32, 2) := by decide +kernel
theorem dL_law_581 : decode cL_law 581 = .ok (.lshl, 1) := by decide +kernel
theorem dL_law_582 : decode cL_law 582 = .ok (.aload_n 0, 1) := by decide +kernel
theorem dL_law_583 : decode cL_law 583 = .ok (.iload 4, 2) := by decide +kernel
theorem dL_law_585 : decode cL_law 585 = .ok (.iconst 3, 1) := by decide +kernel
theorem dL_law_586 : decode cL_law 586 = .ok (.iadd, 1) := by decide +kernel
theorem dL_law_587 : decode cL_law 587 = .ok (.iaload, 1) := by decide +kernel
theorem dL_law_588 : decode cL_law 588 = .ok (.i2l, 1) := by decide +kernel
theorem dL_law_589 : decode cL_law 589 = .ok (.ldc2_w 63, 3) := by decide +kernel
theorem dL_law_592 : decode cL_law 592 = .ok (.land, 1) := by decide +kernel
theorem dL_law_593 : decode cL_law 593 = .ok (.lor, 1) := by decide +kernel
theorem dL_law_594 : decode cL_law 594 = .ok (.aload_n 3, 1) := by decide +kernel
theorem dL_law_595 : decode cL_law 595 = .ok (.invokestatic 85, 3) := by decide +kernel
theorem dL_law_598 : decode cL_law 598 = .ok (.istore 5, 2) := by decide +kernel
theorem dL_law_600 : decode cL_law 600 = .ok (.aload_n 2, 1) := by decide +kernel
theorem dL_law_601 : decode cL_law 601 = .ok (.aload_n 0, 1) := by decide +kernel
theorem dL_law_602 : decode cL_law 602 = .ok (.iload 4, 2) := by decide +kernel
theorem dL_law_604 : decode cL_law 604 = .ok (.iconst 1, 1) := by decide +kernel
theorem dL_law_605 : decode cL_law 605 = .ok (.iadd, 1) := by decide +kernel
theorem dL_law_606 : decode cL_law 606 = .ok (.iaload, 1) := by decide +kernel
theorem dL_law_607 : decode cL_law 607 = .ok (.aload_n 0, 1) := by decide +kernel
theorem dL_law_608 : decode cL_law 608 = .ok (.iload 4, 2) := by decide +kernel
theorem dL_law_610 : decode cL_law 610 = .ok (.iconst 2, 1) := by decide +kernel
theorem dL_law_611 : decode cL_law 611 = .ok (.iadd, 1) := by decide +kernel
theorem dL_law_612 : decode cL_law 612 = .ok (.iaload, 1) := by decide +kernel
theorem dL_law_613 : decode cL_law 613 = .ok (.i2l, 1) := by decide +kernel
theorem dL_law_614 : decode cL_law 614 = .ok (.bipush 32, 2) := by decide +kernel
theorem dL_law_616 : decode cL_law 616 = .ok (.lshl, 1) := by decide +kernel
theorem dL_law_617 : decode cL_law 617 = .ok (.aload_n 0, 1) := by decide +kernel
theorem dL_law_618 : decode cL_law 618 = .ok (.iload 4, 2) := by decide +kernel
theorem dL_law_620 : decode cL_law 620 = .ok (.iconst 3, 1) := by decide +kernel
theorem dL_law_621 : decode cL_law 621 = .ok (.iadd, 1) := by decide +kernel
theorem dL_law_622 : decode cL_law 622 = .ok (.iaload, 1) := by decide +kernel
theorem dL_law_623 : decode cL_law 623 = .ok (.i2l, 1) := by decide +kernel
theorem dL_law_624 : decode cL_law 624 = .ok (.ldc2_w 63, 3) := by decide +kernel
theorem dL_law_627 : decode cL_law 627 = .ok (.land, 1) := by decide +kernel
theorem dL_law_628 : decode cL_law 628 = .ok (.lor, 1) := by decide +kernel
theorem dL_law_629 : decode cL_law 629 = .ok (.invokevirtual 87, 3) := by decide +kernel
theorem dL_law_632 : decode cL_law 632 = .ok (.istore 6, 2) := by decide +kernel
theorem dL_law_634 : decode cL_law 634 = .ok (.aload_n 2, 1) := by decide +kernel
theorem dL_law_635 : decode cL_law 635 = .ok (.invokevirtual 71, 3) := by decide +kernel
theorem dL_law_638 : decode cL_law 638 = .ok (.iload 5, 2) := by decide +kernel
theorem dL_law_640 : decode cL_law 640 = .ok (.if_icmp .eq 5, 3) := by decide +kernel
theorem dL_law_643 : decode cL_law 643 = .ok (.iconst 0, 1) := by decide +kernel
theorem dL_law_644 : decode cL_law 644 = .ok (.ireturn, 1) := by decide +kernel
theorem dL_law_645 : decode cL_law 645 = .ok (.iload 5, 2) := by decide +kernel
theorem dL_law_647 : decode cL_law 647 = .ok (.ifCond .ne 22, 3) := by decide +kernel
theorem dL_law_650 : decode cL_law 650 = .ok (.aload_n 3, 1) := by decide +kernel
theorem dL_law_651 : decode cL_law 651 = .ok (.iconst 0, 1) := by decide +kernel
theorem dL_law_652 : decode cL_law 652 = .ok (.laload, 1) := by decide +kernel
theorem dL_law_653 : decode cL_law 653 = .ok (.iload 6, 2) := by decide +kernel
theorem dL_law_655 : decode cL_law 655 = .ok (.ifCond .eq 7, 3) := by decide +kernel
theorem dL_law_658 : decode cL_law 658 = .ok (.lconst 1, 1) := by decide +kernel
theorem dL_law_659 : decode cL_law 659 = .ok (.goto 4, 3) := by decide +kernel
theorem dL_law_662 : decode cL_law 662 = .ok (.lconst 0, 1) := by decide +kernel
theorem dL_law_663 : decode cL_law 663 = .ok (.lcmp, 1) := by decide +kernel
theorem dL_law_664 : decode cL_law 664 = .ok (.ifCond .eq 5, 3) := by decide +kernel
theorem dL_law_667 : decode cL_law 667 = .ok (.iconst 0, 1) := by decide +kernel
theorem dL_law_668 : decode cL_law 668 = .ok (.ireturn, 1) := by decide +kernel
theorem dL_law_669 : decode cL_law 669 = .ok (.goto 539, 3) := by decide +kernel
theorem dL_law_672 : decode cL_law 672 = .ok (.aload_n 1, 1) := by decide +kernel
theorem dL_law_673 : decode cL_law 673 = .ok (.aload_n 0, 1) := by decide +kernel
theorem dL_law_674 : decode cL_law 674 = .ok (.iload 4, 2) := by decide +kernel
theorem dL_law_676 : decode cL_law 676 = .ok (.iconst 1, 1) := by decide +kernel
theorem dL_law_677 : decode cL_law 677 = .ok (.iadd, 1) := by decide +kernel
theorem dL_law_678 : decode cL_law 678 = .ok (.iaload, 1) := by decide +kernel
theorem dL_law_679 : decode cL_law 679 = .ok (.aload_n 0, 1) := by decide +kernel
theorem dL_law_680 : decode cL_law 680 = .ok (.iload 4, 2) := by decide +kernel
theorem dL_law_682 : decode cL_law 682 = .ok (.iconst 2, 1) := by decide +kernel
theorem dL_law_683 : decode cL_law 683 = .ok (.iadd, 1) := by decide +kernel
theorem dL_law_684 : decode cL_law 684 = .ok (.iaload, 1) := by decide +kernel
theorem dL_law_685 : decode cL_law 685 = .ok (.aload_n 3, 1) := by decide +kernel
theorem dL_law_686 : decode cL_law 686 = .ok (.invokestatic 88, 3) := by decide +kernel
theorem dL_law_689 : decode cL_law 689 = .ok (.istore 5, 2) := by decide +kernel
theorem dL_law_691 : decode cL_law 691 = .ok (.aload_n 2, 1) := by decide +kernel
theorem dL_law_692 : decode cL_law 692 = .ok (.aload_n 0, 1) := by decide +kernel
theorem dL_law_693 : decode cL_law 693 = .ok (.iload 4, 2) := by decide +kernel
theorem dL_law_695 : decode cL_law 695 = .ok (.iconst 1, 1) := by decide +kernel
theorem dL_law_696 : decode cL_law 696 = .ok (.iadd, 1) := by decide +kernel
theorem dL_law_697 : decode cL_law 697 = .ok (.iaload, 1) := by decide +kernel
theorem dL_law_698 : decode cL_law 698 = .ok (.aload_n 0, 1) := by decide +kernel
theorem dL_law_699 : decode cL_law 699 = .ok (.iload 4, 2) := by decide +kernel
theorem dL_law_701 : decode cL_law 701 = .ok (.iconst 2, 1) := by decide +kernel
theorem dL_law_702 : decode cL_law 702 = .ok (.iadd, 1) := by decide +kernel
theorem dL_law_703 : decode cL_law 703 = .ok (.iaload, 1) := by decide +kernel
theorem dL_law_704 : decode cL_law 704 = .ok (.invokevirtual 91, 3) := by decide +kernel
theorem dL_law_707 : decode cL_law 707 = .ok (.lstore 6, 2) := by decide +kernel
theorem dL_law_709 : decode cL_law 709 = .ok (.aload_n 2, 1) := by decide +kernel
theorem dL_law_710 : decode cL_law 710 = .ok (.invokevirtual 71, 3) := by decide +kernel
theorem dL_law_713 : decode cL_law 713 = .ok (.iload 5, 2) := by decide +kernel
theorem dL_law_715 : decode cL_law 715 = .ok (.if_icmp .eq 5, 3) := by decide +kernel
theorem dL_law_718 : decode cL_law 718 = .ok (.iconst 0, 1) := by decide +kernel
theorem dL_law_719 : decode cL_law 719 = .ok (.ireturn, 1) := by decide +kernel
theorem dL_law_720 : decode cL_law 720 = .ok (.iload 5, 2) := by decide +kernel
theorem dL_law_722 : decode cL_law 722 = .ok (.ifCond .ne 14, 3) := by decide +kernel
theorem dL_law_725 : decode cL_law 725 = .ok (.aload_n 3, 1) := by decide +kernel
theorem dL_law_726 : decode cL_law 726 = .ok (.iconst 0, 1) := by decide +kernel
theorem dL_law_727 : decode cL_law 727 = .ok (.laload, 1) := by decide +kernel
theorem dL_law_728 : decode cL_law 728 = .ok (.lload 6, 2) := by decide +kernel
theorem dL_law_730 : decode cL_law 730 = .ok (.lcmp, 1) := by decide +kernel
theorem dL_law_731 : decode cL_law 731 = .ok (.ifCond .eq 5, 3) := by decide +kernel
theorem dL_law_734 : decode cL_law 734 = .ok (.iconst 0, 1) := by decide +kernel
theorem dL_law_735 : decode cL_law 735 = .ok (.ireturn, 1) := by decide +kernel
theorem dL_law_736 : decode cL_law 736 = .ok (.goto 472, 3) := by decide +kernel
theorem dL_law_739 : decode cL_law 739 = .ok (.aload_n 1, 1) := by decide +kernel
theorem dL_law_740 : decode cL_law 740 = .ok (.aload_n 0, 1) := by decide +kernel
theorem dL_law_741 : decode cL_law 741 = .ok (.iload 4, 2) := by decide +kernel
theorem dL_law_743 : decode cL_law 743 = .ok (.iconst 1, 1) := by decide +kernel
theorem dL_law_744 : decode cL_law 744 = .ok (.iadd, 1) := by decide +kernel
theorem dL_law_745 : decode cL_law 745 = .ok (.iaload, 1) := by decide +kernel
theorem dL_law_746 : decode cL_law 746 = .ok (.aload_n 0, 1) := by decide +kernel
theorem dL_law_747 : decode cL_law 747 = .ok (.iload 4, 2) := by decide +kernel
theorem dL_law_749 : decode cL_law 749 = .ok (.iconst 2, 1) := by decide +kernel
theorem dL_law_750 : decode cL_law 750 = .ok (.iadd, 1) := by decide +kernel
theorem dL_law_751 : decode cL_law 751 = .ok (.iaload, 1) := by decide +kernel
theorem dL_law_752 : decode cL_law 752 = .ok (.aload_n 3, 1) := by decide +kernel
theorem dL_law_753 : decode cL_law 753 = .ok (.invokestatic 92, 3) := by decide +kernel
theorem dL_law_756 : decode cL_law 756 = .ok (.istore 5, 2) := by decide +kernel
theorem dL_law_758 : decode cL_law 758 = .ok (.aload_n 2, 1) := by decide +kernel
theorem dL_law_759 : decode cL_law 759 = .ok (.aload_n 0, 1) := by decide +kernel
theorem dL_law_760 : decode cL_law 760 = .ok (.iload 4, 2) := by decide +kernel
theorem dL_law_762 : decode cL_law 762 = .ok (.iconst 1, 1) := by decide +kernel
theorem dL_law_763 : decode cL_law 763 = .ok (.iadd, 1) := by decide +kernel
theorem dL_law_764 : decode cL_law 764 = .ok (.iaload, 1) := by decide +kernel
theorem dL_law_765 : decode cL_law 765 = .ok (.aload_n 0, 1) := by decide +kernel
theorem dL_law_766 : decode cL_law 766 = .ok (.iload 4, 2) := by decide +kernel
theorem dL_law_768 : decode cL_law 768 = .ok (.iconst 2, 1) := by decide +kernel
theorem dL_law_769 : decode cL_law 769 = .ok (.iadd, 1) := by decide +kernel
theorem dL_law_770 : decode cL_law 770 = .ok (.iaload, 1) := by decide +kernel
theorem dL_law_771 : decode cL_law 771 = .ok (.invokevirtual 94, 3) := by decide +kernel
theorem dL_law_774 : decode cL_law 774 = .ok (.lstore 6, 2) := by decide +kernel
theorem dL_law_776 : decode cL_law 776 = .ok (.aload_n 2, 1) := by decide +kernel
theorem dL_law_777 : decode cL_law 777 = .ok (.invokevirtual 71, 3) := by decide +kernel
theorem dL_law_780 : decode cL_law 780 = .ok (.iload 5, 2) := by decide +kernel
theorem dL_law_782 : decode cL_law 782 = .ok (.if_icmp .eq 5, 3) := by decide +kernel
theorem dL_law_785 : decode cL_law 785 = .ok (.iconst 0, 1) := by decide +kernel
theorem dL_law_786 : decode cL_law 786 = .ok (.ireturn, 1) := by decide +kernel
theorem dL_law_787 : decode cL_law 787 = .ok (.iload 5, 2) := by decide +kernel
theorem dL_law_789 : decode cL_law 789 = .ok (.ifCond .ne 14, 3) := by decide +kernel
theorem dL_law_792 : decode cL_law 792 = .ok (.aload_n 3, 1) := by decide +kernel
theorem dL_law_793 : decode cL_law 793 = .ok (.iconst 0, 1) := by decide +kernel
theorem dL_law_794 : decode cL_law 794 = .ok (.laload, 1) := by decide +kernel
theorem dL_law_795 : decode cL_law 795 = .ok (.lload 6, 2) := by decide +kernel
theorem dL_law_797 : decode cL_law 797 = .ok (.lcmp, 1) := by decide +kernel
theorem dL_law_798 : decode cL_law 798 = .ok (.ifCond .eq 5, 3) := by decide +kernel
theorem dL_law_801 : decode cL_law 801 = .ok (.iconst 0, 1) := by decide +kernel
theorem dL_law_802 : decode cL_law 802 = .ok (.ireturn, 1) := by decide +kernel
theorem dL_law_803 : decode cL_law 803 = .ok (.goto 405, 3) := by decide +kernel
theorem dL_law_806 : decode cL_law 806 = .ok (.aload_n 1, 1) := by decide +kernel
theorem dL_law_807 : decode cL_law 807 = .ok (.aload_n 0, 1) := by decide +kernel
theorem dL_law_808 : decode cL_law 808 = .ok (.iload 4, 2) := by decide +kernel
theorem dL_law_810 : decode cL_law 810 = .ok (.iconst 1, 1) := by decide +kernel
theorem dL_law_811 : decode cL_law 811 = .ok (.iadd, 1) := by decide +kernel
theorem dL_law_812 : decode cL_law 812 = .ok (.iaload, 1) := by decide +kernel
theorem dL_law_813 : decode cL_law 813 = .ok (.aload_n 0, 1) := by decide +kernel
theorem dL_law_814 : decode cL_law 814 = .ok (.iload 4, 2) := by decide +kernel
theorem dL_law_816 : decode cL_law 816 = .ok (.iconst 2, 1) := by decide +kernel
theorem dL_law_817 : decode cL_law 817 = .ok (.iadd, 1) := by decide +kernel
theorem dL_law_818 : decode cL_law 818 = .ok (.iaload, 1) := by decide +kernel
theorem dL_law_819 : decode cL_law 819 = .ok (.aload_n 3, 1) := by decide +kernel
theorem dL_law_820 : decode cL_law 820 = .ok (.invokestatic 95, 3) := by decide +kernel
theorem dL_law_823 : decode cL_law 823 = .ok (.istore 5, 2) := by decide +kernel
theorem dL_law_825 : decode cL_law 825 = .ok (.aload_n 2, 1) := by decide +kernel
theorem dL_law_826 : decode cL_law 826 = .ok (.aload_n 0, 1) := by decide +kernel
theorem dL_law_827 : decode cL_law 827 = .ok (.iload 4, 2) := by decide +kernel
theorem dL_law_829 : decode cL_law 829 = .ok (.iconst 1, 1) := by decide +kernel
theorem dL_law_830 : decode cL_law 830 = .ok (.iadd, 1) := by decide +kernel
theorem dL_law_831 : decode cL_law 831 = .ok (.iaload, 1) := by decide +kernel
theorem dL_law_832 : decode cL_law 832 = .ok (.aload_n 0, 1) := by decide +kernel
theorem dL_law_833 : decode cL_law 833 = .ok (.iload 4, 2) := by decide +kernel
theorem dL_law_835 : decode cL_law 835 = .ok (.iconst 2, 1) := by decide +kernel
theorem dL_law_836 : decode cL_law 836 = .ok (.iadd, 1) := by decide +kernel
theorem dL_law_837 : decode cL_law 837 = .ok (.iaload, 1) := by decide +kernel
theorem dL_law_838 : decode cL_law 838 = .ok (.invokevirtual 97, 3) := by decide +kernel
theorem dL_law_841 : decode cL_law 841 = .ok (.lstore 6, 2) := by decide +kernel
theorem dL_law_843 : decode cL_law 843 = .ok (.aload_n 2, 1) := by decide +kernel
theorem dL_law_844 : decode cL_law 844 = .ok (.invokevirtual 71, 3) := by decide +kernel
theorem dL_law_847 : decode cL_law 847 = .ok (.iload 5, 2) := by decide +kernel
theorem dL_law_849 : decode cL_law 849 = .ok (.if_icmp .eq 5, 3) := by decide +kernel
theorem dL_law_852 : decode cL_law 852 = .ok (.iconst 0, 1) := by decide +kernel
theorem dL_law_853 : decode cL_law 853 = .ok (.ireturn, 1) := by decide +kernel
theorem dL_law_854 : decode cL_law 854 = .ok (.iload 5, 2) := by decide +kernel
theorem dL_law_856 : decode cL_law 856 = .ok (.ifCond .ne 14, 3) := by decide +kernel
theorem dL_law_859 : decode cL_law 859 = .ok (.aload_n 3, 1) := by decide +kernel
theorem dL_law_860 : decode cL_law 860 = .ok (.iconst 0, 1) := by decide +kernel
theorem dL_law_861 : decode cL_law 861 = .ok (.laload, 1) := by decide +kernel
theorem dL_law_862 : decode cL_law 862 = .ok (.lload 6, 2) := by decide +kernel
theorem dL_law_864 : decode cL_law 864 = .ok (.lcmp, 1) := by decide +kernel
theorem dL_law_865 : decode cL_law 865 = .ok (.ifCond .eq 5, 3) := by decide +kernel
theorem dL_law_868 : decode cL_law 868 = .ok (.iconst 0, 1) := by decide +kernel
theorem dL_law_869 : decode cL_law 869 = .ok (.ireturn, 1) := by decide +kernel
theorem dL_law_870 : decode cL_law 870 = .ok (.goto 338, 3) := by decide +kernel
theorem dL_law_873 : decode cL_law 873 = .ok (.aload_n 1, 1) := by decide +kernel
theorem dL_law_874 : decode cL_law 874 = .ok (.aload_n 0, 1) := by decide +kernel
theorem dL_law_875 : decode cL_law 875 = .ok (.iload 4, 2) := by decide +kernel
theorem dL_law_877 : decode cL_law 877 = .ok (.iconst 1, 1) := by decide +kernel
theorem dL_law_878 : decode cL_law 878 = .ok (.iadd, 1) := by decide +kernel
theorem dL_law_879 : decode cL_law 879 = .ok (.iaload, 1) := by decide +kernel
theorem dL_law_880 : decode cL_law 880 = .ok (.aload_n 0, 1) := by decide +kernel
theorem dL_law_881 : decode cL_law 881 = .ok (.iload 4, 2) := by decide +kernel
theorem dL_law_883 : decode cL_law 883 = .ok (.iconst 2, 1) := by decide +kernel
theorem dL_law_884 : decode cL_law 884 = .ok (.iadd, 1) := by decide +kernel
theorem dL_law_885 : decode cL_law 885 = .ok (.iaload, 1) := by decide +kernel
theorem dL_law_886 : decode cL_law 886 = .ok (.aload_n 0, 1) := by decide +kernel
theorem dL_law_887 : decode cL_law 887 = .ok (.iload 4, 2) := by decide +kernel
theorem dL_law_889 : decode cL_law 889 = .ok (.iconst 3, 1) := by decide +kernel
theorem dL_law_890 : decode cL_law 890 = .ok (.iadd, 1) := by decide +kernel
theorem dL_law_891 : decode cL_law 891 = .ok (.iaload, 1) := by decide +kernel
theorem dL_law_892 : decode cL_law 892 = .ok (.aload_n 3, 1) := by decide +kernel
theorem dL_law_893 : decode cL_law 893 = .ok (.invokestatic 98, 3) := by decide +kernel
theorem dL_law_896 : decode cL_law 896 = .ok (.istore 5, 2) := by decide +kernel
theorem dL_law_898 : decode cL_law 898 = .ok (.aload_n 2, 1) := by decide +kernel
theorem dL_law_899 : decode cL_law 899 = .ok (.aload_n 0, 1) := by decide +kernel
theorem dL_law_900 : decode cL_law 900 = .ok (.iload 4, 2) := by decide +kernel
theorem dL_law_902 : decode cL_law 902 = .ok (.iconst 1, 1) := by decide +kernel
theorem dL_law_903 : decode cL_law 903 = .ok (.iadd, 1) := by decide +kernel
theorem dL_law_904 : decode cL_law 904 = .ok (.iaload, 1) := by decide +kernel
theorem dL_law_905 : decode cL_law 905 = .ok (.aload_n 0, 1) := by decide +kernel
theorem dL_law_906 : decode cL_law 906 = .ok (.iload 4, 2) := by decide +kernel
theorem dL_law_908 : decode cL_law 908 = .ok (.iconst 2, 1) := by decide +kernel
theorem dL_law_909 : decode cL_law 909 = .ok (.iadd, 1) := by decide +kernel
theorem dL_law_910 : decode cL_law 910 = .ok (.iaload, 1) := by decide +kernel
theorem dL_law_911 : decode cL_law 911 = .ok (.aload_n 0, 1) := by decide +kernel
theorem dL_law_912 : decode cL_law 912 = .ok (.iload 4, 2) := by decide +kernel
theorem dL_law_914 : decode cL_law 914 = .ok (.iconst 3, 1) := by decide +kernel
theorem dL_law_915 : decode cL_law 915 = .ok (.iadd, 1) := by decide +kernel
theorem dL_law_916 : decode cL_law 916 = .ok (.iaload, 1) := by decide +kernel
theorem dL_law_917 : decode cL_law 917 = .ok (.invokevirtual 101, 3) := by decide +kernel
theorem dL_law_920 : decode cL_law 920 = .ok (.lstore 6, 2) := by decide +kernel
theorem dL_law_922 : decode cL_law 922 = .ok (.aload_n 2, 1) := by decide +kernel
theorem dL_law_923 : decode cL_law 923 = .ok (.invokevirtual 71, 3) := by decide +kernel
theorem dL_law_926 : decode cL_law 926 = .ok (.iload 5, 2) := by decide +kernel
theorem dL_law_928 : decode cL_law 928 = .ok (.if_icmp .eq 5, 3) := by decide +kernel
theorem dL_law_931 : decode cL_law 931 = .ok (.iconst 0, 1) := by decide +kernel
theorem dL_law_932 : decode cL_law 932 = .ok (.ireturn, 1) := by decide +kernel
theorem dL_law_933 : decode cL_law 933 = .ok (.iload 5, 2) := by decide +kernel
theorem dL_law_935 : decode cL_law 935 = .ok (.ifCond .ne 14, 3) := by decide +kernel
theorem dL_law_938 : decode cL_law 938 = .ok (.aload_n 3, 1) := by decide +kernel
theorem dL_law_939 : decode cL_law 939 = .ok (.iconst 0, 1) := by decide +kernel
theorem dL_law_940 : decode cL_law 940 = .ok (.laload, 1) := by decide +kernel
theorem dL_law_941 : decode cL_law 941 = .ok (.lload 6, 2) := by decide +kernel
theorem dL_law_943 : decode cL_law 943 = .ok (.lcmp, 1) := by decide +kernel
theorem dL_law_944 : decode cL_law 944 = .ok (.ifCond .eq 5, 3) := by decide +kernel
theorem dL_law_947 : decode cL_law 947 = .ok (.iconst 0, 1) := by decide +kernel
theorem dL_law_948 : decode cL_law 948 = .ok (.ireturn, 1) := by decide +kernel
theorem dL_law_949 : decode cL_law 949 = .ok (.goto 259, 3) := by decide +kernel
theorem dL_law_952 : decode cL_law 952 = .ok (.aload_n 1, 1) := by decide +kernel
theorem dL_law_953 : decode cL_law 953 = .ok (.aload_n 0, 1) := by decide +kernel
theorem dL_law_954 : decode cL_law 954 = .ok (.iload 4, 2) := by decide +kernel
theorem dL_law_956 : decode cL_law 956 = .ok (.iconst 1, 1) := by decide +kernel
theorem dL_law_957 : decode cL_law 957 = .ok (.iadd, 1) := by decide +kernel
theorem dL_law_958 : decode cL_law 958 = .ok (.iaload, 1) := by decide +kernel
theorem dL_law_959 : decode cL_law 959 = .ok (.aload_n 0, 1) := by decide +kernel
theorem dL_law_960 : decode cL_law 960 = .ok (.iload 4, 2) := by decide +kernel
theorem dL_law_962 : decode cL_law 962 = .ok (.iconst 2, 1) := by decide +kernel
theorem dL_law_963 : decode cL_law 963 = .ok (.iadd, 1) := by decide +kernel
theorem dL_law_964 : decode cL_law 964 = .ok (.iaload, 1) := by decide +kernel
theorem dL_law_965 : decode cL_law 965 = .ok (.aload_n 3, 1) := by decide +kernel
theorem dL_law_966 : decode cL_law 966 = .ok (.invokestatic 102, 3) := by decide +kernel
theorem dL_law_969 : decode cL_law 969 = .ok (.istore 5, 2) := by decide +kernel
theorem dL_law_971 : decode cL_law 971 = .ok (.aload_n 2, 1) := by decide +kernel
theorem dL_law_972 : decode cL_law 972 = .ok (.aload_n 0, 1) := by decide +kernel
theorem dL_law_973 : decode cL_law 973 = .ok (.iload 4, 2) := by decide +kernel
theorem dL_law_975 : decode cL_law 975 = .ok (.iconst 1, 1) := by decide +kernel
theorem dL_law_976 : decode cL_law 976 = .ok (.iadd, 1) := by decide +kernel
theorem dL_law_977 : decode cL_law 977 = .ok (.iaload, 1) := by decide +kernel
theorem dL_law_978 : decode cL_law 978 = .ok (.aload_n 0, 1) := by decide +kernel
theorem dL_law_979 : decode cL_law 979 = .ok (.iload 4, 2) := by decide +kernel
theorem dL_law_981 : decode cL_law 981 = .ok (.iconst 2, 1) := by decide +kernel
theorem dL_law_982 : decode cL_law 982 = .ok (.iadd, 1) := by decide +kernel
theorem dL_law_983 : decode cL_law 983 = .ok (.iaload, 1) := by decide +kernel
theorem dL_law_984 : decode cL_law 984 = .ok (.invokevirtual 104, 3) := by decide +kernel
theorem dL_law_987 : decode cL_law 987 = .ok (.istore 6, 2) := by decide +kernel
theorem dL_law_989 : decode cL_law 989 = .ok (.aload_n 2, 1) := by decide +kernel
theorem dL_law_990 : decode cL_law 990 = .ok (.invokevirtual 71, 3) := by decide +kernel
theorem dL_law_993 : decode cL_law 993 = .ok (.iload 5, 2) := by decide +kernel
theorem dL_law_995 : decode cL_law 995 = .ok (.if_icmp .eq 5, 3) := by decide +kernel
theorem dL_law_998 : decode cL_law 998 = .ok (.iconst 0, 1) := by decide +kernel
theorem dL_law_999 : decode cL_law 999 = .ok (.ireturn, 1) := by decide +kernel
theorem dL_law_1000 : decode cL_law 1000 = .ok (.iload 5, 2) := by decide +kernel
theorem dL_law_1002 : decode cL_law 1002 = .ok (.ifCond .ne 15, 3) := by decide +kernel
theorem dL_law_1005 : decode cL_law 1005 = .ok (.aload_n 3, 1) := by decide +kernel
theorem dL_law_1006 : decode cL_law 1006 = .ok (.iconst 0, 1) := by decide +kernel
theorem dL_law_1007 : decode cL_law 1007 = .ok (.laload, 1) := by decide +kernel
theorem dL_law_1008 : decode cL_law 1008 = .ok (.iload 6, 2) := by decide +kernel
theorem dL_law_1010 : decode cL_law 1010 = .ok (.i2l, 1) := by decide +kernel
theorem dL_law_1011 : decode cL_law 1011 = .ok (.lcmp, 1) := by decide +kernel
theorem dL_law_1012 : decode cL_law 1012 = .ok (.ifCond .eq 5, 3) := by decide +kernel
theorem dL_law_1015 : decode cL_law 1015 = .ok (.iconst 0, 1) := by decide +kernel
theorem dL_law_1016 : decode cL_law 1016 = .ok (.ireturn, 1) := by decide +kernel
theorem dL_law_1017 : decode cL_law 1017 = .ok (.goto 191, 3) := by decide +kernel
theorem dL_law_1020 : decode cL_law 1020 = .ok (.aload_n 1, 1) := by decide +kernel
theorem dL_law_1021 : decode cL_law 1021 = .ok (.aload_n 0, 1) := by decide +kernel
theorem dL_law_1022 : decode cL_law 1022 = .ok (.iload 4, 2) := by decide +kernel
theorem dL_law_1024 : decode cL_law 1024 = .ok (.iconst 1, 1) := by decide +kernel
theorem dL_law_1025 : decode cL_law 1025 = .ok (.iadd, 1) := by decide +kernel
theorem dL_law_1026 : decode cL_law 1026 = .ok (.iaload, 1) := by decide +kernel
theorem dL_law_1027 : decode cL_law 1027 = .ok (.invokestatic 105, 3) := by decide +kernel
theorem dL_law_1030 : decode cL_law 1030 = .ok (.istore 5, 2) := by decide +kernel
theorem dL_law_1032 : decode cL_law 1032 = .ok (.aload_n 2, 1) := by decide +kernel
theorem dL_law_1033 : decode cL_law 1033 = .ok (.aload_n 0, 1) := by decide +kernel
theorem dL_law_1034 : decode cL_law 1034 = .ok (.iload 4, 2) := by decide +kernel
theorem dL_law_1036 : decode cL_law 1036 = .ok (.iconst 1, 1) := by decide +kernel
theorem dL_law_1037 : decode cL_law 1037 = .ok (.iadd, 1) := by decide +kernel
theorem dL_law_1038 : decode cL_law 1038 = .ok (.iaload, 1) := by decide +kernel
theorem dL_law_1039 : decode cL_law 1039 = .ok (.invokevirtual 108, 3) := by decide +kernel
theorem dL_law_1042 : decode cL_law 1042 = .ok (.aload_n 2, 1) := by decide +kernel
theorem dL_law_1043 : decode cL_law 1043 = .ok (.invokevirtual 71, 3) := by decide +kernel
theorem dL_law_1046 : decode cL_law 1046 = .ok (.iload 5, 2) := by decide +kernel
theorem dL_law_1048 : decode cL_law 1048 = .ok (.if_icmp .eq 5, 3) := by decide +kernel
theorem dL_law_1051 : decode cL_law 1051 = .ok (.iconst 0, 1) := by decide +kernel
theorem dL_law_1052 : decode cL_law 1052 = .ok (.ireturn, 1) := by decide +kernel
theorem dL_law_1053 : decode cL_law 1053 = .ok (.goto 155, 3) := by decide +kernel
theorem dL_law_1056 : decode cL_law 1056 = .ok (.aload_n 1, 1) := by decide +kernel
theorem dL_law_1057 : decode cL_law 1057 = .ok (.aload_n 0, 1) := by decide +kernel
theorem dL_law_1058 : decode cL_law 1058 = .ok (.iload 4, 2) := by decide +kernel
theorem dL_law_1060 : decode cL_law 1060 = .ok (.iconst 1, 1) := by decide +kernel
theorem dL_law_1061 : decode cL_law 1061 = .ok (.iadd, 1) := by decide +kernel
theorem dL_law_1062 : decode cL_law 1062 = .ok (.iaload, 1) := by decide +kernel
theorem dL_law_1063 : decode cL_law 1063 = .ok (.ifCond .eq 7, 3) := by decide +kernel
theorem dL_law_1066 : decode cL_law 1066 = .ok (.iconst 1, 1) := by decide +kernel
theorem dL_law_1067 : decode cL_law 1067 = .ok (.goto 4, 3) := by decide +kernel
theorem dL_law_1070 : decode cL_law 1070 = .ok (.iconst 0, 1) := by decide +kernel
theorem dL_law_1071 : decode cL_law 1071 = .ok (.aload_n 0, 1) := by decide +kernel
theorem dL_law_1072 : decode cL_law 1072 = .ok (.iload 4, 2) := by decide +kernel
theorem dL_law_1074 : decode cL_law 1074 = .ok (.iconst 2, 1) := by decide +kernel
theorem dL_law_1075 : decode cL_law 1075 = .ok (.iadd, 1) := by decide +kernel
theorem dL_law_1076 : decode cL_law 1076 = .ok (.iaload, 1) := by decide +kernel
theorem dL_law_1077 : decode cL_law 1077 = .ok (.aload_n 0, 1) := by decide +kernel
theorem dL_law_1078 : decode cL_law 1078 = .ok (.iload 4, 2) := by decide +kernel
theorem dL_law_1080 : decode cL_law 1080 = .ok (.iconst 3, 1) := by decide +kernel
theorem dL_law_1081 : decode cL_law 1081 = .ok (.iadd, 1) := by decide +kernel
theorem dL_law_1082 : decode cL_law 1082 = .ok (.iaload, 1) := by decide +kernel
theorem dL_law_1083 : decode cL_law 1083 = .ok (.i2l, 1) := by decide +kernel
theorem dL_law_1084 : decode cL_law 1084 = .ok (.bipush 32, 2) := by decide +kernel
theorem dL_law_1086 : decode cL_law 1086 = .ok (.lshl, 1) := by decide +kernel
theorem dL_law_1087 : decode cL_law 1087 = .ok (.aload_n 0, 1) := by decide +kernel
theorem dL_law_1088 : decode cL_law 1088 = .ok (.iload 4, 2) := by decide +kernel
theorem dL_law_1090 : decode cL_law 1090 = .ok (.iconst 4, 1) := by decide +kernel
theorem dL_law_1091 : decode cL_law 1091 = .ok (.iadd, 1) := by decide +kernel
theorem dL_law_1092 : decode cL_law 1092 = .ok (.iaload, 1) := by decide +kernel
theorem dL_law_1093 : decode cL_law 1093 = .ok (.i2l, 1) := by decide +kernel
theorem dL_law_1094 : decode cL_law 1094 = .ok (.ldc2_w 63, 3) := by decide +kernel
theorem dL_law_1097 : decode cL_law 1097 = .ok (.land, 1) := by decide +kernel
theorem dL_law_1098 : decode cL_law 1098 = .ok (.lor, 1) := by decide +kernel
theorem dL_law_1099 : decode cL_law 1099 = .ok (.aload_n 3, 1) := by decide +kernel
theorem dL_law_1100 : decode cL_law 1100 = .ok (.invokestatic 109, 3) := by decide +kernel
theorem dL_law_1103 : decode cL_law 1103 = .ok (.istore 5, 2) := by decide +kernel
theorem dL_law_1105 : decode cL_law 1105 = .ok (.aload_n 2, 1) := by decide +kernel
theorem dL_law_1106 : decode cL_law 1106 = .ok (.aload_n 0, 1) := by decide +kernel
theorem dL_law_1107 : decode cL_law 1107 = .ok (.iload 4, 2) := by decide +kernel
theorem dL_law_1109 : decode cL_law 1109 = .ok (.iconst 1, 1) := by decide +kernel
theorem dL_law_1110 : decode cL_law 1110 = .ok (.iadd, 1) := by decide +kernel
theorem dL_law_1111 : decode cL_law 1111 = .ok (.iaload, 1) := by decide +kernel
theorem dL_law_1112 : decode cL_law 1112 = .ok (.ifCond .eq 7, 3) := by decide +kernel
theorem dL_law_1115 : decode cL_law 1115 = .ok (.iconst 1, 1) := by decide +kernel
theorem dL_law_1116 : decode cL_law 1116 = .ok (.goto 4, 3) := by decide +kernel
theorem dL_law_1119 : decode cL_law 1119 = .ok (.iconst 0, 1) := by decide +kernel
theorem dL_law_1120 : decode cL_law 1120 = .ok (.aload_n 0, 1) := by decide +kernel
theorem dL_law_1121 : decode cL_law 1121 = .ok (.iload 4, 2) := by decide +kernel
theorem dL_law_1123 : decode cL_law 1123 = .ok (.iconst 2, 1) := by decide +kernel
theorem dL_law_1124 : decode cL_law 1124 = .ok (.iadd, 1) := by decide +kernel
theorem dL_law_1125 : decode cL_law 1125 = .ok (.iaload, 1) := by decide +kernel
theorem dL_law_1126 : decode cL_law 1126 = .ok (.aload_n 0, 1) := by decide +kernel
theorem dL_law_1127 : decode cL_law 1127 = .ok (.iload 4, 2) := by decide +kernel
theorem dL_law_1129 : decode cL_law 1129 = .ok (.iconst 3, 1) := by decide +kernel
theorem dL_law_1130 : decode cL_law 1130 = .ok (.iadd, 1) := by decide +kernel
theorem dL_law_1131 : decode cL_law 1131 = .ok (.iaload, 1) := by decide +kernel
theorem dL_law_1132 : decode cL_law 1132 = .ok (.i2l, 1) := by decide +kernel
theorem dL_law_1133 : decode cL_law 1133 = .ok (.bipush 32, 2) := by decide +kernel
theorem dL_law_1135 : decode cL_law 1135 = .ok (.lshl, 1) := by decide +kernel
theorem dL_law_1136 : decode cL_law 1136 = .ok (.aload_n 0, 1) := by decide +kernel
theorem dL_law_1137 : decode cL_law 1137 = .ok (.iload 4, 2) := by decide +kernel
theorem dL_law_1139 : decode cL_law 1139 = .ok (.iconst 4, 1) := by decide +kernel
theorem dL_law_1140 : decode cL_law 1140 = .ok (.iadd, 1) := by decide +kernel
theorem dL_law_1141 : decode cL_law 1141 = .ok (.iaload, 1) := by decide +kernel
theorem dL_law_1142 : decode cL_law 1142 = .ok (.i2l, 1) := by decide +kernel
theorem dL_law_1143 : decode cL_law 1143 = .ok (.ldc2_w 63, 3) := by decide +kernel
theorem dL_law_1146 : decode cL_law 1146 = .ok (.land, 1) := by decide +kernel
theorem dL_law_1147 : decode cL_law 1147 = .ok (.lor, 1) := by decide +kernel
theorem dL_law_1148 : decode cL_law 1148 = .ok (.invokevirtual 112, 3) := by decide +kernel
theorem dL_law_1151 : decode cL_law 1151 = .ok (.lstore 6, 2) := by decide +kernel
theorem dL_law_1153 : decode cL_law 1153 = .ok (.aload_n 2, 1) := by decide +kernel
theorem dL_law_1154 : decode cL_law 1154 = .ok (.invokevirtual 71, 3) := by decide +kernel
theorem dL_law_1157 : decode cL_law 1157 = .ok (.iload 5, 2) := by decide +kernel
theorem dL_law_1159 : decode cL_law 1159 = .ok (.if_icmp .eq 5, 3) := by decide +kernel
theorem dL_law_1162 : decode cL_law 1162 = .ok (.iconst 0, 1) := by decide +kernel
theorem dL_law_1163 : decode cL_law 1163 = .ok (.ireturn, 1) := by decide +kernel
theorem dL_law_1164 : decode cL_law 1164 = .ok (.iload 5, 2) := by decide +kernel
theorem dL_law_1166 : decode cL_law 1166 = .ok (.ifCond .ne 14, 3) := by decide +kernel
theorem dL_law_1169 : decode cL_law 1169 = .ok (.aload_n 3, 1) := by decide +kernel
theorem dL_law_1170 : decode cL_law 1170 = .ok (.iconst 0, 1) := by decide +kernel
theorem dL_law_1171 : decode cL_law 1171 = .ok (.laload, 1) := by decide +kernel
theorem dL_law_1172 : decode cL_law 1172 = .ok (.lload 6, 2) := by decide +kernel
theorem dL_law_1174 : decode cL_law 1174 = .ok (.lcmp, 1) := by decide +kernel
theorem dL_law_1175 : decode cL_law 1175 = .ok (.ifCond .eq 5, 3) := by decide +kernel
theorem dL_law_1178 : decode cL_law 1178 = .ok (.iconst 0, 1) := by decide +kernel
theorem dL_law_1179 : decode cL_law 1179 = .ok (.ireturn, 1) := by decide +kernel
theorem dL_law_1180 : decode cL_law 1180 = .ok (.goto 28, 3) := by decide +kernel
theorem dL_law_1183 : decode cL_law 1183 = .ok (.aload_n 1, 1) := by decide +kernel
theorem dL_law_1184 : decode cL_law 1184 = .ok (.aload_n 0, 1) := by decide +kernel
theorem dL_law_1185 : decode cL_law 1185 = .ok (.iload 4, 2) := by decide +kernel
theorem dL_law_1187 : decode cL_law 1187 = .ok (.iconst 1, 1) := by decide +kernel
theorem dL_law_1188 : decode cL_law 1188 = .ok (.iadd, 1) := by decide +kernel
theorem dL_law_1189 : decode cL_law 1189 = .ok (.iaload, 1) := by decide +kernel
theorem dL_law_1190 : decode cL_law 1190 = .ok (.invokevirtual 113, 3) := by decide +kernel
theorem dL_law_1193 : decode cL_law 1193 = .ok (.aload_n 2, 1) := by decide +kernel
theorem dL_law_1194 : decode cL_law 1194 = .ok (.aload_n 0, 1) := by decide +kernel
theorem dL_law_1195 : decode cL_law 1195 = .ok (.iload 4, 2) := by decide +kernel
theorem dL_law_1197 : decode cL_law 1197 = .ok (.iconst 1, 1) := by decide +kernel
theorem dL_law_1198 : decode cL_law 1198 = .ok (.iadd, 1) := by decide +kernel
theorem dL_law_1199 : decode cL_law 1199 = .ok (.iaload, 1) := by decide +kernel
theorem dL_law_1200 : decode cL_law 1200 = .ok (.invokevirtual 117, 3) := by decide +kernel
theorem dL_law_1203 : decode cL_law 1203 = .ok (.if_icmp .eq 5, 3) := by decide +kernel
theorem dL_law_1206 : decode cL_law 1206 = .ok (.iconst 0, 1) := by decide +kernel
theorem dL_law_1207 : decode cL_law 1207 = .ok (.ireturn, 1) := by decide +kernel
theorem dL_law_1208 : decode cL_law 1208 = .ok (.iinc 4 6, 3) := by decide +kernel
theorem dL_law_1211 : decode cL_law 1211 = .ok (.goto (-1188), 3) := by decide +kernel
theorem dL_law_1214 : decode cL_law 1214 = .ok (.iconst 1, 1) := by decide +kernel
theorem dL_law_1215 : decode cL_law 1215 = .ok (.ireturn, 1) := by decide +kernel
abbrev vwCl : List vw_C := [(RX0, TX0, 0), (RX1, TX1, 8), (RX2, TX2, 5), (RX3, TX3, 7)]
end
section
/-! ROWS OF MY OWN: the constants of Kind, pure methods, comparisons of longs, the world as a map from addresses to cells. -/
def kSide (i : Nat) : Int64 := if i = 0 then -9223372036854775808 else -2147483648
def kHid (i : Nat) : Int64 := if i = 0 then 4503599627370496 else 8388608
def kOne (i : Nat) : Int64 := if i = 0 then 4607182418800017408 else 1065353216
def kInf (i : Nat) : Int64 := if i = 0 then 9218868437227405312 else 2139095040
def kFrac (i : Nat) : Int32 := if i = 0 then 52 else 23
def kBias (i : Nat) : Int32 := if i = 0 then 1023 else 127
/-- the two constants of Kind, at ad 0 (FINE) and ad 1 (COARSE), and what their fields hold -/
def KC (ad : Nat → Nat) (A : Nat → Prop) (U : State) (H : Heap) : Prop :=
  va_En RX0 "LNeedleBoard$Kind;" ["FINE", "COARSE"] [] ad A U H ∧ va_Ef 2 RX0 "fractionBits" "I" (fun i => .int (kFrac i)) ad A U H ∧ va_Ef 2 RX0 "bias" "I" (fun i => .int (kBias i)) ad A U H ∧
  va_Ef 2 RX0 "sideBits" "J" (fun i => .long (kSide i)) ad A U H ∧ va_Ef 2 RX0 "hiddenBit" "J" (fun i => .long (kHid i)) ad A U H ∧ va_Ef 2 RX0 "one" "J" (fun i => .long (kOne i)) ad A U H ∧ va_Ef 2 RX0 "infinity" "J" (fun i => .long (kInf i)) ad A U H
theorem KC.moved {ad : Nat → Nat} {A : Nat → Prop} {u U : State} {H : Heap} (hvm : u.vm.Alike U.vm) (h : KC ad A u H) : KC ad A U H :=
  ⟨va_En.moved hvm h.1, va_Ef.moved hvm h.2.1, va_Ef.moved hvm h.2.2.1, va_Ef.moved hvm h.2.2.2.1, va_Ef.moved hvm h.2.2.2.2.1, va_Ef.moved hvm h.2.2.2.2.2.1, va_Ef.moved hvm h.2.2.2.2.2.2⟩
theorem KC.kept {ad : Nat → Nat} {A : Nat → Prop} {U : State} {H H1 : Heap} (h : KC ad A U H) (hq : ∀ a : Nat, a < H.size → ¬ A a → H1[a]? = H[a]?) : KC ad A U H1 :=
  ⟨h.1.kept hq, h.2.1.kept hq, h.2.2.1.kept hq, h.2.2.2.1.kept hq, h.2.2.2.2.1.kept hq, h.2.2.2.2.2.1.kept hq, h.2.2.2.2.2.2.kept hq⟩
theorem KC.narrow {ad : Nat → Nat} {A B : Nat → Prop} {U : State} {H : Heap} (h : KC ad A U H) (hAB : ∀ q, B q → A q) : KC ad B U H :=
  ⟨h.1.narrow hAB, h.2.1.narrow hAB, h.2.2.1.narrow hAB, h.2.2.2.1.narrow hAB, h.2.2.2.2.1.narrow hAB, h.2.2.2.2.2.1.narrow hAB, h.2.2.2.2.2.2.narrow hAB⟩
theorem KC.pre {ad : Nat → Nat} {A : Nat → Prop} {s : State} {H : Heap} {locs : List Loc} (h : KC ad A s s.heap) (hS : va_S A s.heap H locs) {U : State} (hU : U.heap = H) (hW : s.WarmedH U.vm) : KC ad (fun _ => False) U U.heap := by
  rw [hU]
  exact ((h.kept hS.2.1).narrow (fun _ z => z.elim)).moved hW.alike
/-- a pure method's start: its arguments, and the constants somewhere -/
def PK (ad : Nat → Nat) (av : List Value) : Array Value → State → Prop := fun v U => v = av.toArray ∧ KC ad (fun _ => False) U U.heap
theorem PK.blind (ad : Nat → Nat) (av : List Value) : FrameBlind (PK ad av) := fun _ _ _ _ h => ⟨h.1, h.2.moved (Vm.Alike.refl _)⟩
/-- .. of a method that needs nothing but its arguments -/
def P0 (av : List Value) : Array Value → State → Prop := fun v _ => v = av.toArray
theorem P0.blind (av : List Value) : FrameBlind (P0 av) := fun _ _ _ _ h => h
section PB
variable {p : Program} {l : Launch} {e : Env} {R : Room} {s : State} {m : MethodId} {args : Array Value} {below : List Frame} {meth : Method} {c : Code} {H : Heap} {locs : List Loc} {cells slots : Nat} {Q : State → Prop}
variable {cc : ByteArray} {pc : Nat} {ls : Array Slot} {rest st0 : List Value} {A : Nat → Prop} {ad : Nat → Nat}
variable {y : MethodName} {bytes : ByteArray} {maxL nL n index i : Nat} {ret : Option FieldType} {ws Ts : List Cond} {rm : Room} {own : String} {As : List Value}
/-- a pure method of a constant of Kind is called -/
theorem pc_V {r : Value} (S : CallFix p m c cc nL s args Ts own) (hM : Met l y ws rm (PK ad (.ref (ad i) :: As)) (k2_QcV r) 0 0 (fun _ => False)) (cw : CallW R s args own RX0 index y bytes maxL ret ws rm 0 0 n)
    (hKC : KC ad A s s.heap) (hS : va_S A s.heap H locs) (hi : i < 2) (hn : As.length = n) (hl : ls.size = nL) (hst : st0 = As.reverse ++ .ref (ad i) :: rest) (hW : 2 * (F0 m pc ls rest).monitorRoom + (rest.map fun v => v.category).sum ≤ 8)
    (hdg : decode cc pc = .ok (.invokevirtual index, 3)) (hf : cells + 0 ≤ R.cells ∧ slots + 0 ≤ R.slots) (kk : W p l e R s m args below meth c H locs cells slots Q (F0 m (pc + 3) ls (r :: rest))) : W p l e R s m args below meth c H locs cells slots Q (F0 m pc ls st0) := by
  subst hst
  exact W.callV (W.runV S hM cw ⟨PK.blind ad _, va_recvE hKC.1 hi hS, fun U hU hW => ⟨rfl, hKC.pre hS hU hW⟩⟩ rfl hn hl rfl hW hdg hf) kk
/-- a pure static method that needs the constants -/
theorem pc_S {r : Value} (S : CallFix p m c cc nL s args Ts own) (hM : Met l y ws rm (PK ad As) (k2_QcV r) 0 0 (fun _ => False)) (cw : CallB R s args own index y bytes maxL ret ws rm 0 0 n ∧ (Cond.static y).before args s = true)
    (hKC : KC ad A s s.heap) (hS : va_S A s.heap H locs) (hn : As.length = n) (hl : ls.size = nL) (hst : st0 = As.reverse ++ rest) (hW : 2 * (F0 m pc ls rest).monitorRoom + (rest.map fun v => v.category).sum ≤ 8)
    (hdg : decode cc pc = .ok (.invokestatic index, 3)) (hf : cells + 0 ≤ R.cells ∧ slots + 0 ≤ R.slots) (kk : W p l e R s m args below meth c H locs cells slots Q (F0 m (pc + 3) ls (r :: rest))) : W p l e R s m args below meth c H locs cells slots Q (F0 m pc ls st0) := by
  subst hst
  exact W.callV (W.runS S hM cw ⟨PK.blind ad _, fun U hU hW => ⟨rfl, hKC.pre hS hU hW⟩⟩ rfl hn hl rfl hW hdg hf) kk
/-- a pure static method of its arguments alone -/
theorem pc_0 {r : Value} (S : CallFix p m c cc nL s args Ts own) (hM : Met l y ws rm (P0 As) (k2_QcV r) 0 0 (fun _ => False)) (cw : CallB R s args own index y bytes maxL ret ws rm 0 0 n ∧ (Cond.static y).before args s = true)
    (hn : As.length = n) (hl : ls.size = nL) (hst : st0 = As.reverse ++ rest) (hW : 2 * (F0 m pc ls rest).monitorRoom + (rest.map fun v => v.category).sum ≤ 8)
    (hdg : decode cc pc = .ok (.invokestatic index, 3)) (hf : cells + 0 ≤ R.cells ∧ slots + 0 ≤ R.slots) (kk : W p l e R s m args below meth c H locs cells slots Q (F0 m (pc + 3) ls (r :: rest))) : W p l e R s m args below meth c H locs cells slots Q (F0 m pc ls st0) := by
  subst hst
  exact W.callV (W.runS S hM cw ⟨P0.blind _, fun U hU hW => rfl⟩ rfl hn hl rfl hW hdg hf) kk
/-! a comparison of two longs and the branch behind it -/
theorem pl_eq (hx : p.tables.exec = Jvm.exec) (hb : c.code = cc) {x y : Int64} {off : Int} {tgt : Nat} (d1 : decode cc pc = .ok (.lcmp, 1)) (d2 : decode cc (pc + 1) = .ok (.ifCond .eq off, 3)) (ht : ((pc + 1 : Nat) : Int) + off = (tgt : Int))
    (kt : x = y → W p l e R s m args below meth c H locs cells slots Q (F0 m tgt ls rest)) (kf : ¬ x = y → W p l e R s m args below meth c H locs cells slots Q (F0 m (pc + 4) ls rest)) : W p l e R s m args below meth c H locs cells slots Q (F0 m pc ls (.long y :: .long x :: rest)) :=
  W.lcmp hx hb d1 (lv_if_eq hx hb d2 ht (fun h => kt ((lg_cmp_eq x y).mp h)) (fun h => kf (fun z => h ((lg_cmp_eq x y).mpr z))))
theorem pl_ne (hx : p.tables.exec = Jvm.exec) (hb : c.code = cc) {x y : Int64} {off : Int} {tgt : Nat} (d1 : decode cc pc = .ok (.lcmp, 1)) (d2 : decode cc (pc + 1) = .ok (.ifCond .ne off, 3)) (ht : ((pc + 1 : Nat) : Int) + off = (tgt : Int))
    (kt : ¬ x = y → W p l e R s m args below meth c H locs cells slots Q (F0 m tgt ls rest)) (kf : x = y → W p l e R s m args below meth c H locs cells slots Q (F0 m (pc + 4) ls rest)) : W p l e R s m args below meth c H locs cells slots Q (F0 m pc ls (.long y :: .long x :: rest)) :=
  W.lcmp hx hb d1 (lv_if_ne hx hb d2 ht (fun h => kt (fun z => h ((lg_cmp_eq x y).mpr z))) (fun h => kf ((lg_cmp_eq x y).mp h)))
theorem pl_lt (hx : p.tables.exec = Jvm.exec) (hb : c.code = cc) {x y : Int64} {off : Int} {tgt : Nat} (d1 : decode cc pc = .ok (.lcmp, 1)) (d2 : decode cc (pc + 1) = .ok (.ifCond .lt off, 3)) (ht : ((pc + 1 : Nat) : Int) + off = (tgt : Int))
    (kt : x < y → W p l e R s m args below meth c H locs cells slots Q (F0 m tgt ls rest)) (kf : ¬ x < y → W p l e R s m args below meth c H locs cells slots Q (F0 m (pc + 4) ls rest)) : W p l e R s m args below meth c H locs cells slots Q (F0 m pc ls (.long y :: .long x :: rest)) :=
  W.lcmp hx hb d1 (lv_if_lt hx hb d2 ht (fun h => kt ((lg_cmp_lt x y).mp h)) (fun h => kf (fun z => h ((lg_cmp_lt x y).mpr z))))
theorem pl_ge (hx : p.tables.exec = Jvm.exec) (hb : c.code = cc) {x y : Int64} {off : Int} {tgt : Nat} (d1 : decode cc pc = .ok (.lcmp, 1)) (d2 : decode cc (pc + 1) = .ok (.ifCond .ge off, 3)) (ht : ((pc + 1 : Nat) : Int) + off = (tgt : Int))
    (kt : y ≤ x → W p l e R s m args below meth c H locs cells slots Q (F0 m tgt ls rest)) (kf : ¬ y ≤ x → W p l e R s m args below meth c H locs cells slots Q (F0 m (pc + 4) ls rest)) : W p l e R s m args below meth c H locs cells slots Q (F0 m pc ls (.long y :: .long x :: rest)) :=
  W.lcmp hx hb d1 (lv_if_ge hx hb d2 ht (fun h => kt ((lg_cmp_ge x y).mp h)) (fun h => kf (fun z => h ((lg_cmp_ge x y).mpr z))))
theorem pl_gt (hx : p.tables.exec = Jvm.exec) (hb : c.code = cc) {x y : Int64} {off : Int} {tgt : Nat} (d1 : decode cc pc = .ok (.lcmp, 1)) (d2 : decode cc (pc + 1) = .ok (.ifCond .gt off, 3)) (ht : ((pc + 1 : Nat) : Int) + off = (tgt : Int))
    (kt : y < x → W p l e R s m args below meth c H locs cells slots Q (F0 m tgt ls rest)) (kf : ¬ y < x → W p l e R s m args below meth c H locs cells slots Q (F0 m (pc + 4) ls rest)) : W p l e R s m args below meth c H locs cells slots Q (F0 m pc ls (.long y :: .long x :: rest)) :=
  W.lcmp hx hb d1 (lv_if_gt hx hb d2 ht (fun h => kt ((lg_cmp_gt x y).mp h)) (fun h => kf (fun z => h ((lg_cmp_gt x y).mpr z))))
theorem pl_le (hx : p.tables.exec = Jvm.exec) (hb : c.code = cc) {x y : Int64} {off : Int} {tgt : Nat} (d1 : decode cc pc = .ok (.lcmp, 1)) (d2 : decode cc (pc + 1) = .ok (.ifCond .le off, 3)) (ht : ((pc + 1 : Nat) : Int) + off = (tgt : Int))
    (kt : x ≤ y → W p l e R s m args below meth c H locs cells slots Q (F0 m tgt ls rest)) (kf : ¬ x ≤ y → W p l e R s m args below meth c H locs cells slots Q (F0 m (pc + 4) ls rest)) : W p l e R s m args below meth c H locs cells slots Q (F0 m pc ls (.long y :: .long x :: rest)) :=
  W.lcmp hx hb d1 (lv_if_le hx hb d2 ht (fun h => kt ((lg_cmp_le x y).mp h)) (fun h => kf (fun z => h ((lg_cmp_le x y).mpr z))))
theorem pk_side (hx : p.tables.exec = Jvm.exec) (hb : c.code = cc) (hKC : KC ad A s s.heap) (hi : i < 2) (hS : va_S A s.heap H locs) (hown : s.vm.findClass own = some m.cls) (hlink : (Cond.fieldLink own index RX0 "sideBits" "J").before args s = true) (hdg : decode cc pc = .ok (.getfield index, 3))
    (kk : W p l e R s m args below meth c H locs cells slots Q (F0 m (pc + 3) ls (.long (kSide i) :: rest))) : W p l e R s m args below meth c H locs cells slots Q (F0 m pc ls (.ref (ad i) :: rest)) := va_getX hx hb hKC.2.2.2.1 hi hS hown hlink (fun _ h => h) hdg kk
theorem pk_hid (hx : p.tables.exec = Jvm.exec) (hb : c.code = cc) (hKC : KC ad A s s.heap) (hi : i < 2) (hS : va_S A s.heap H locs) (hown : s.vm.findClass own = some m.cls) (hlink : (Cond.fieldLink own index RX0 "hiddenBit" "J").before args s = true) (hdg : decode cc pc = .ok (.getfield index, 3))
    (kk : W p l e R s m args below meth c H locs cells slots Q (F0 m (pc + 3) ls (.long (kHid i) :: rest))) : W p l e R s m args below meth c H locs cells slots Q (F0 m pc ls (.ref (ad i) :: rest)) := va_getX hx hb hKC.2.2.2.2.1 hi hS hown hlink (fun _ h => h) hdg kk
theorem pk_one (hx : p.tables.exec = Jvm.exec) (hb : c.code = cc) (hKC : KC ad A s s.heap) (hi : i < 2) (hS : va_S A s.heap H locs) (hown : s.vm.findClass own = some m.cls) (hlink : (Cond.fieldLink own index RX0 "one" "J").before args s = true) (hdg : decode cc pc = .ok (.getfield index, 3))
    (kk : W p l e R s m args below meth c H locs cells slots Q (F0 m (pc + 3) ls (.long (kOne i) :: rest))) : W p l e R s m args below meth c H locs cells slots Q (F0 m pc ls (.ref (ad i) :: rest)) := va_getX hx hb hKC.2.2.2.2.2.1 hi hS hown hlink (fun _ h => h) hdg kk
theorem pk_inf (hx : p.tables.exec = Jvm.exec) (hb : c.code = cc) (hKC : KC ad A s s.heap) (hi : i < 2) (hS : va_S A s.heap H locs) (hown : s.vm.findClass own = some m.cls) (hlink : (Cond.fieldLink own index RX0 "infinity" "J").before args s = true) (hdg : decode cc pc = .ok (.getfield index, 3))
    (kk : W p l e R s m args below meth c H locs cells slots Q (F0 m (pc + 3) ls (.long (kInf i) :: rest))) : W p l e R s m args below meth c H locs cells slots Q (F0 m pc ls (.ref (ad i) :: rest)) := va_getX hx hb hKC.2.2.2.2.2.2 hi hS hown hlink (fun _ h => h) hdg kk
theorem pk_frac (hx : p.tables.exec = Jvm.exec) (hb : c.code = cc) (hKC : KC ad A s s.heap) (hi : i < 2) (hS : va_S A s.heap H locs) (hown : s.vm.findClass own = some m.cls) (hlink : (Cond.fieldLink own index RX0 "fractionBits" "I").before args s = true) (hdg : decode cc pc = .ok (.getfield index, 3))
    (kk : W p l e R s m args below meth c H locs cells slots Q (F0 m (pc + 3) ls (.int (kFrac i) :: rest))) : W p l e R s m args below meth c H locs cells slots Q (F0 m pc ls (.ref (ad i) :: rest)) := va_getX hx hb hKC.2.1 hi hS hown hlink (fun _ h => h) hdg kk
theorem pk_bias (hx : p.tables.exec = Jvm.exec) (hb : c.code = cc) (hKC : KC ad A s s.heap) (hi : i < 2) (hS : va_S A s.heap H locs) (hown : s.vm.findClass own = some m.cls) (hlink : (Cond.fieldLink own index RX0 "bias" "I").before args s = true) (hdg : decode cc pc = .ok (.getfield index, 3))
    (kk : W p l e R s m args below meth c H locs cells slots Q (F0 m (pc + 3) ls (.int (kBias i) :: rest))) : W p l e R s m args below meth c H locs cells slots Q (F0 m pc ls (.ref (ad i) :: rest)) := va_getX hx hb hKC.2.2.1 hi hS hown hlink (fun _ h => h) hdg kk
theorem pk_fine (hx : p.tables.exec = Jvm.exec) (hb : c.code = cc) (hKC : KC ad A s s.heap) (hS : va_S A s.heap H locs) (hown : s.vm.findClass own = some m.cls) (hlink : (Cond.fieldLink own index RX0 "FINE" "LNeedleBoard$Kind;").before args s = true) (hdg : decode cc pc = .ok (.getstatic index, 3))
    (kk : W p l e R s m args below meth c H locs cells slots Q (F0 m (pc + 3) ls (.ref (ad 0) :: rest))) : W p l e R s m args below meth c H locs cells slots Q (F0 m pc ls rest) := va_gets hx hb (hKC.1.1 0 (by decide)).1 hS hown hlink (fun _ h => h) hdg kk
theorem pk_coarse (hx : p.tables.exec = Jvm.exec) (hb : c.code = cc) (hKC : KC ad A s s.heap) (hS : va_S A s.heap H locs) (hown : s.vm.findClass own = some m.cls) (hlink : (Cond.fieldLink own index RX0 "COARSE" "LNeedleBoard$Kind;").before args s = true) (hdg : decode cc pc = .ok (.getstatic index, 3))
    (kk : W p l e R s m args below meth c H locs cells slots Q (F0 m (pc + 3) ls (.ref (ad 1) :: rest))) : W p l e R s m args below meth c H locs cells slots Q (F0 m pc ls rest) := va_gets hx hb (hKC.1.1 1 (by decide)).1 hS hown hlink (fun _ h => h) hdg kk
theorem pa_ne (hx : p.tables.exec = Jvm.exec) (hb : c.code = cc) (hKC : KC ad A s s.heap) {j : Nat} (hi : i < 2) (hj : j < 2) {off : Int} {tgt : Nat} (hdg : decode cc pc = .ok (.if_acmp .ne off, 3)) (ht : (pc : Int) + off = (tgt : Int))
    (kt : ¬ i = j → W p l e R s m args below meth c H locs cells slots Q (F0 m tgt ls rest)) (kf : i = j → W p l e R s m args below meth c H locs cells slots Q (F0 m (pc + 3) ls rest)) : W p l e R s m args below meth c H locs cells slots Q (F0 m pc ls (.ref (ad j) :: .ref (ad i) :: rest)) :=
  lv_acmp_ne (rx := some (ad i)) (ry := some (ad j)) hx hb hdg ht (fun h => kt (fun e => h (by rw [e]))) (fun h => kf (hKC.1.2 i j hi hj (Option.some.inj h)))
theorem pa_eq (hx : p.tables.exec = Jvm.exec) (hb : c.code = cc) (hKC : KC ad A s s.heap) {j : Nat} (hi : i < 2) (hj : j < 2) {off : Int} {tgt : Nat} (hdg : decode cc pc = .ok (.if_acmp .eq off, 3)) (ht : (pc : Int) + off = (tgt : Int))
    (kt : i = j → W p l e R s m args below meth c H locs cells slots Q (F0 m tgt ls rest)) (kf : ¬ i = j → W p l e R s m args below meth c H locs cells slots Q (F0 m (pc + 3) ls rest)) : W p l e R s m args below meth c H locs cells slots Q (F0 m pc ls (.ref (ad j) :: .ref (ad i) :: rest)) :=
  lv_acmp_eq (rx := some (ad i)) (ry := some (ad j)) hx hb hdg ht (fun h => kt (hKC.1.2 i j hi hj (Option.some.inj h))) (fun h => kf (fun e => h (by rw [e])))
end PB
end
section
def fX0_sizeOf (i : Nat) (x1 : Int64) : Int64 :=
  x1 &&& ((kSide i) ^^^ (-1 : Int64))
theorem hd_X0_sizeOf : yX0_sizeOf.cls = RX0 ∧ yX0_sizeOf.cls ≠ "java/lang/invoke/MethodHandle" ∧ yX0_sizeOf.cls ≠ "java/lang/invoke/VarHandle" ∧ (parseMethodDescriptor yX0_sizeOf.desc).map (fun d => d.parameters.length) = some 1 := by decide +kernel
set_option maxHeartbeats 4000000 in
set_option maxRecDepth 100000 in
theorem c_X0_sizeOf (l : Launch) (ad : Nat → Nat) (i : Nat) (hi : i < 2) (x1 : Int64) : Met l yX0_sizeOf wsX0_sizeOf ({ frames := 0, cells := 0, slots := 0, locals := 0 }) (PK ad [.ref (ad i), .long x1]) (k2_QcV (.long (fX0_sizeOf i x1))) 0 0 (fun _ => False) := by
  refine Met.ofW (cc := cX0_sizeOf) (maxL := 3) (ret := (some .long)) (by decide) rfl ?_
  intro p e s m args below meth c s₁ B hml hv
  obtain ⟨rfl, hKC⟩ := hv
  have hx := B.exec
  have hb := B.bytes
  have hr := B.returns
  have hts := atoms_spec (ws := wsX0_sizeOf) B.pre
  have hown : s.vm.findClass RX0 = some m.cls := findClass_of_methodNamed B.named
  have hlocks := B.notSynchronized
  have hS : va_S (fun _ => False) s.heap s.heap [] := va_S.rf
  have hl := lv_entry ([.ref (ad i), .long x1]) (n := 3) (Nat.le_of_ble_eq_true rfl)
  rw [lg_entry_eq]
  generalize (lg_sl ([.ref (ad i), .long x1]) ++ List.replicate (3 - (lg_sl ([.ref (ad i), .long x1])).length) Slot.unset).toArray = ls at hl ⊢
  have hl : lv_has ls 3 [(0, .ref (ad i)), (1, .long x1)] := hl
  refine lv_lload_n hx hb dX0_sizeOf_0 rfl (lv_at hl 1 rfl) ?_
  refine lv_aload_n hx hb dX0_sizeOf_1 rfl (lv_at hl 0 rfl) ?_
  refine pk_side hx hb hKC hi hS hown (hts (.fieldLink RX0 36 "NeedleBoard$Kind" "sideBits" "J") (by decide +kernel)) dX0_sizeOf_2 ?_
  refine lv_ldc2 (v := (-1)) hx hb hown (hts (.constantLong RX0 70 (-1)) (by decide +kernel)) dX0_sizeOf_5 ?_
  refine lv_lxor hx hb dX0_sizeOf_8 ?_
  refine lv_land hx hb dX0_sizeOf_9 ?_
  exact W.lret hx hb hr (fun t ht _ => ⟨congrArg (fun z => Outcome.returned (some (Value.long z))) rfl, ht⟩) (fun _ h => nomatch h) dX0_sizeOf_10
def fX0_rankOf (i : Nat) (x1 : Int64) : Int64 :=
  if (0 : Int64) ≤ x1 then
    x1
  else
    x1 ^^^ ((kSide i) ^^^ (-1 : Int64))
theorem hd_X0_rankOf : yX0_rankOf.cls = RX0 ∧ yX0_rankOf.cls ≠ "java/lang/invoke/MethodHandle" ∧ yX0_rankOf.cls ≠ "java/lang/invoke/VarHandle" ∧ (parseMethodDescriptor yX0_rankOf.desc).map (fun d => d.parameters.length) = some 1 := by decide +kernel
set_option maxHeartbeats 4000000 in
set_option maxRecDepth 100000 in
theorem c_X0_rankOf (l : Launch) (ad : Nat → Nat) (i : Nat) (hi : i < 2) (x1 : Int64) : Met l yX0_rankOf wsX0_rankOf ({ frames := 0, cells := 0, slots := 0, locals := 0 }) (PK ad [.ref (ad i), .long x1]) (k2_QcV (.long (fX0_rankOf i x1))) 0 0 (fun _ => False) := by
  refine Met.ofW (cc := cX0_rankOf) (maxL := 3) (ret := (some .long)) (by decide) rfl ?_
  intro p e s m args below meth c s₁ B hml hv
  obtain ⟨rfl, hKC⟩ := hv
  have hx := B.exec
  have hb := B.bytes
  have hr := B.returns
  have hts := atoms_spec (ws := wsX0_rankOf) B.pre
  have hown : s.vm.findClass RX0 = some m.cls := findClass_of_methodNamed B.named
  have hlocks := B.notSynchronized
  have hS : va_S (fun _ => False) s.heap s.heap [] := va_S.rf
  have hl := lv_entry ([.ref (ad i), .long x1]) (n := 3) (Nat.le_of_ble_eq_true rfl)
  rw [lg_entry_eq]
  generalize (lg_sl ([.ref (ad i), .long x1]) ++ List.replicate (3 - (lg_sl ([.ref (ad i), .long x1])).length) Slot.unset).toArray = ls at hl ⊢
  have hl : lv_has ls 3 [(0, .ref (ad i)), (1, .long x1)] := hl
  refine lv_lload_n hx hb dX0_rankOf_0 rfl (lv_at hl 1 rfl) ?_
  refine lv_lconst (v := 0) hx hb dX0_rankOf_1 (by decide) ?_
  refine pl_ge (tgt := 19) hx hb dX0_rankOf_2 dX0_rankOf_3 (by decide) (fun c_1 => ?_) (fun c_1 => ?_)
  · refine lv_lload_n hx hb dX0_rankOf_19 rfl (lv_at hl 1 rfl) ?_
    exact W.lret hx hb hr (fun t ht _ => ⟨congrArg (fun z => Outcome.returned (some (Value.long z))) (by unfold fX0_rankOf; rw [if_pos c_1]), ht⟩) (fun _ h => nomatch h) dX0_rankOf_20
  · refine lv_lload_n hx hb dX0_rankOf_6 rfl (lv_at hl 1 rfl) ?_
    refine lv_aload_n hx hb dX0_rankOf_7 rfl (lv_at hl 0 rfl) ?_
    refine pk_side hx hb hKC hi hS hown (hts (.fieldLink RX0 36 "NeedleBoard$Kind" "sideBits" "J") (by decide +kernel)) dX0_rankOf_8 ?_
    refine lv_ldc2 (v := (-1)) hx hb hown (hts (.constantLong RX0 70 (-1)) (by decide +kernel)) dX0_rankOf_11 ?_
    refine lv_lxor hx hb dX0_rankOf_14 ?_
    refine lv_lxor hx hb dX0_rankOf_15 ?_
    refine lv_goto (tgt := 20) hx hb dX0_rankOf_16 (by decide) ?_
    exact W.lret hx hb hr (fun t ht _ => ⟨congrArg (fun z => Outcome.returned (some (Value.long z))) (by unfold fX0_rankOf; rw [if_neg c_1]), ht⟩) (fun _ h => nomatch h) dX0_rankOf_20
def fX0_isBelow (i : Nat) (x1 : Int64) (x3 : Int64) : Int32 :=
  if (fX0_rankOf i x3) ≤ (fX0_rankOf i x1) then
    (0 : Int32)
  else
    (1 : Int32)
theorem hd_X0_isBelow : yX0_isBelow.cls = RX0 ∧ yX0_isBelow.cls ≠ "java/lang/invoke/MethodHandle" ∧ yX0_isBelow.cls ≠ "java/lang/invoke/VarHandle" ∧ (parseMethodDescriptor yX0_isBelow.desc).map (fun d => d.parameters.length) = some 2 := by decide +kernel
set_option maxHeartbeats 4000000 in
set_option maxRecDepth 100000 in
theorem c_X0_isBelow (l : Launch) (ad : Nat → Nat) (i : Nat) (hi : i < 2) (x1 : Int64) (x3 : Int64) : Met l yX0_isBelow wsX0_isBelow ({ frames := 1, cells := 0, slots := 0, locals := 22 }) (PK ad [.ref (ad i), .long x1, .long x3]) (k2_QcV (.int (fX0_isBelow i x1 x3))) 0 0 (fun _ => False) := by
  refine Met.ofW (cc := cX0_isBelow) (maxL := 5) (ret := (some .boolean)) (by decide) rfl ?_
  intro p e s m args below meth c s₁ B hml hv
  obtain ⟨rfl, hKC⟩ := hv
  have hx := B.exec
  have hb := B.bytes
  have hr := B.returns
  have hts := atoms_spec (ws := wsX0_isBelow) B.pre
  have hown : s.vm.findClass RX0 = some m.cls := findClass_of_methodNamed B.named
  have hlocks := B.notSynchronized
  have hS : va_S (fun _ => False) s.heap s.heap [] := va_S.rf
  have hl := lv_entry ([.ref (ad i), .long x1, .long x3]) (n := 5) (Nat.le_of_ble_eq_true rfl)
  rw [lg_entry_eq]
  generalize (lg_sl ([.ref (ad i), .long x1, .long x3]) ++ List.replicate (5 - (lg_sl ([.ref (ad i), .long x1, .long x3])).length) Slot.unset).toArray = ls at hl ⊢
  have hl : lv_has ls 5 [(0, .ref (ad i)), (1, .long x1), (3, .long x3)] := hl
  refine lv_aload_n hx hb dX0_isBelow_0 rfl (lv_at hl 0 rfl) ?_
  refine lv_lload_n hx hb dX0_isBelow_1 rfl (lv_at hl 1 rfl) ?_
  refine pc_V (i := i) (As := [.long x1]) (rest := []) (r := .long (fX0_rankOf i x1)) ⟨hx, hb, hml, hown, hts⟩ (c_X0_rankOf l ad i hi x1) (cwV 1 hts gX0_isBelow_X0_rankOf rfl rfl rfl hd_X0_rankOf ⟨Nat.le_of_ble_eq_true rfl, Nat.le_of_ble_eq_true rfl⟩) hKC hS hi rfl hl.1 rfl (lv_room (Nat.le_of_ble_eq_true rfl)) dX0_isBelow_2 ⟨Nat.zero_le _, Nat.zero_le _⟩ ?_
  refine lv_aload_n hx hb dX0_isBelow_5 rfl (lv_at hl 0 rfl) ?_
  refine lv_lload_n hx hb dX0_isBelow_6 rfl (lv_at hl 2 rfl) ?_
  refine pc_V (i := i) (As := [.long x3]) (rest := [.long (fX0_rankOf i x1)]) (r := .long (fX0_rankOf i x3)) ⟨hx, hb, hml, hown, hts⟩ (c_X0_rankOf l ad i hi x3) (cwV 1 hts gX0_isBelow_X0_rankOf rfl rfl rfl hd_X0_rankOf ⟨Nat.le_of_ble_eq_true rfl, Nat.le_of_ble_eq_true rfl⟩) hKC hS hi rfl hl.1 rfl (lv_room (Nat.le_of_ble_eq_true rfl)) dX0_isBelow_7 ⟨Nat.zero_le _, Nat.zero_le _⟩ ?_
  refine pl_ge (tgt := 18) hx hb dX0_isBelow_10 dX0_isBelow_11 (by decide) (fun c_1 => ?_) (fun c_1 => ?_)
  · refine lv_iconst (v := 0) hx hb dX0_isBelow_18 (by decide) ?_
    exact W.zret hx hb hr (by decide) (fun t ht _ => ⟨congrArg (fun z => Outcome.returned (some (Value.int z))) (by unfold fX0_isBelow; rw [if_pos c_1]), ht⟩) (fun _ h => nomatch h) dX0_isBelow_19
  · refine lv_iconst (v := 1) hx hb dX0_isBelow_14 (by decide) ?_
    refine lv_goto (tgt := 19) hx hb dX0_isBelow_15 (by decide) ?_
    exact W.zret hx hb hr (by decide) (fun t ht _ => ⟨congrArg (fun z => Outcome.returned (some (Value.int z))) (by unfold fX0_isBelow; rw [if_neg c_1]), ht⟩) (fun _ h => nomatch h) dX0_isBelow_19
def fX0_lesserOf (i : Nat) (x1 : Int64) (x3 : Int64) : Int64 :=
  if (fX0_isBelow i x3 x1) = 0 then
    x1
  else
    x3
theorem hd_X0_lesserOf : yX0_lesserOf.cls = RX0 ∧ yX0_lesserOf.cls ≠ "java/lang/invoke/MethodHandle" ∧ yX0_lesserOf.cls ≠ "java/lang/invoke/VarHandle" ∧ (parseMethodDescriptor yX0_lesserOf.desc).map (fun d => d.parameters.length) = some 2 := by decide +kernel
set_option maxHeartbeats 4000000 in
set_option maxRecDepth 100000 in
theorem c_X0_lesserOf (l : Launch) (ad : Nat → Nat) (i : Nat) (hi : i < 2) (x1 : Int64) (x3 : Int64) : Met l yX0_lesserOf wsX0_lesserOf ({ frames := 2, cells := 0, slots := 0, locals := 46 }) (PK ad [.ref (ad i), .long x1, .long x3]) (k2_QcV (.long (fX0_lesserOf i x1 x3))) 0 0 (fun _ => False) := by
  refine Met.ofW (cc := cX0_lesserOf) (maxL := 5) (ret := (some .long)) (by decide) rfl ?_
  intro p e s m args below meth c s₁ B hml hv
  obtain ⟨rfl, hKC⟩ := hv
  have hx := B.exec
  have hb := B.bytes
  have hr := B.returns
  have hts := atoms_spec (ws := wsX0_lesserOf) B.pre
  have hown : s.vm.findClass RX0 = some m.cls := findClass_of_methodNamed B.named
  have hlocks := B.notSynchronized
  have hS : va_S (fun _ => False) s.heap s.heap [] := va_S.rf
  have hl := lv_entry ([.ref (ad i), .long x1, .long x3]) (n := 5) (Nat.le_of_ble_eq_true rfl)
  rw [lg_entry_eq]
  generalize (lg_sl ([.ref (ad i), .long x1, .long x3]) ++ List.replicate (5 - (lg_sl ([.ref (ad i), .long x1, .long x3])).length) Slot.unset).toArray = ls at hl ⊢
  have hl : lv_has ls 5 [(0, .ref (ad i)), (1, .long x1), (3, .long x3)] := hl
  refine lv_aload_n hx hb dX0_lesserOf_0 rfl (lv_at hl 0 rfl) ?_
  refine lv_lload_n hx hb dX0_lesserOf_1 rfl (lv_at hl 2 rfl) ?_
  refine lv_lload_n hx hb dX0_lesserOf_2 rfl (lv_at hl 1 rfl) ?_
  refine pc_V (i := i) (As := [.long x3, .long x1]) (rest := []) (r := .int (fX0_isBelow i x3 x1)) ⟨hx, hb, hml, hown, hts⟩ (c_X0_isBelow l ad i hi x3 x1) (cwV 2 hts gX0_lesserOf_X0_isBelow rfl rfl rfl hd_X0_isBelow ⟨Nat.le_of_ble_eq_true rfl, Nat.le_of_ble_eq_true rfl⟩) hKC hS hi rfl hl.1 rfl (lv_room (Nat.le_of_ble_eq_true rfl)) dX0_lesserOf_3 ⟨Nat.zero_le _, Nat.zero_le _⟩ ?_
  refine lv_if_eq (tgt := 13) hx hb dX0_lesserOf_6 (by decide) (fun c_1 => ?_) (fun c_1 => ?_)
  · refine lv_lload_n hx hb dX0_lesserOf_13 rfl (lv_at hl 1 rfl) ?_
    exact W.lret hx hb hr (fun t ht _ => ⟨congrArg (fun z => Outcome.returned (some (Value.long z))) (by unfold fX0_lesserOf; rw [if_pos c_1]), ht⟩) (fun _ h => nomatch h) dX0_lesserOf_14
  · refine lv_lload_n hx hb dX0_lesserOf_9 rfl (lv_at hl 2 rfl) ?_
    refine lv_goto (tgt := 14) hx hb dX0_lesserOf_10 (by decide) ?_
    exact W.lret hx hb hr (fun t ht _ => ⟨congrArg (fun z => Outcome.returned (some (Value.long z))) (by unfold fX0_lesserOf; rw [if_neg c_1]), ht⟩) (fun _ h => nomatch h) dX0_lesserOf_14
def fX0_greaterOf (i : Nat) (x1 : Int64) (x3 : Int64) : Int64 :=
  if (fX0_isBelow i x1 x3) = 0 then
    x1
  else
    x3
theorem hd_X0_greaterOf : yX0_greaterOf.cls = RX0 ∧ yX0_greaterOf.cls ≠ "java/lang/invoke/MethodHandle" ∧ yX0_greaterOf.cls ≠ "java/lang/invoke/VarHandle" ∧ (parseMethodDescriptor yX0_greaterOf.desc).map (fun d => d.parameters.length) = some 2 := by decide +kernel
set_option maxHeartbeats 4000000 in
set_option maxRecDepth 100000 in
theorem c_X0_greaterOf (l : Launch) (ad : Nat → Nat) (i : Nat) (hi : i < 2) (x1 : Int64) (x3 : Int64) : Met l yX0_greaterOf wsX0_greaterOf ({ frames := 2, cells := 0, slots := 0, locals := 46 }) (PK ad [.ref (ad i), .long x1, .long x3]) (k2_QcV (.long (fX0_greaterOf i x1 x3))) 0 0 (fun _ => False) := by
  refine Met.ofW (cc := cX0_greaterOf) (maxL := 5) (ret := (some .long)) (by decide) rfl ?_
  intro p e s m args below meth c s₁ B hml hv
  obtain ⟨rfl, hKC⟩ := hv
  have hx := B.exec
  have hb := B.bytes
  have hr := B.returns
  have hts := atoms_spec (ws := wsX0_greaterOf) B.pre
  have hown : s.vm.findClass RX0 = some m.cls := findClass_of_methodNamed B.named
  have hlocks := B.notSynchronized
  have hS : va_S (fun _ => False) s.heap s.heap [] := va_S.rf
  have hl := lv_entry ([.ref (ad i), .long x1, .long x3]) (n := 5) (Nat.le_of_ble_eq_true rfl)
  rw [lg_entry_eq]
  generalize (lg_sl ([.ref (ad i), .long x1, .long x3]) ++ List.replicate (5 - (lg_sl ([.ref (ad i), .long x1, .long x3])).length) Slot.unset).toArray = ls at hl ⊢
  have hl : lv_has ls 5 [(0, .ref (ad i)), (1, .long x1), (3, .long x3)] := hl
  refine lv_aload_n hx hb dX0_greaterOf_0 rfl (lv_at hl 0 rfl) ?_
  refine lv_lload_n hx hb dX0_greaterOf_1 rfl (lv_at hl 1 rfl) ?_
  refine lv_lload_n hx hb dX0_greaterOf_2 rfl (lv_at hl 2 rfl) ?_
  refine pc_V (i := i) (As := [.long x1, .long x3]) (rest := []) (r := .int (fX0_isBelow i x1 x3)) ⟨hx, hb, hml, hown, hts⟩ (c_X0_isBelow l ad i hi x1 x3) (cwV 2 hts gX0_greaterOf_X0_isBelow rfl rfl rfl hd_X0_isBelow ⟨Nat.le_of_ble_eq_true rfl, Nat.le_of_ble_eq_true rfl⟩) hKC hS hi rfl hl.1 rfl (lv_room (Nat.le_of_ble_eq_true rfl)) dX0_greaterOf_3 ⟨Nat.zero_le _, Nat.zero_le _⟩ ?_
  refine lv_if_eq (tgt := 13) hx hb dX0_greaterOf_6 (by decide) (fun c_1 => ?_) (fun c_1 => ?_)
  · refine lv_lload_n hx hb dX0_greaterOf_13 rfl (lv_at hl 1 rfl) ?_
    exact W.lret hx hb hr (fun t ht _ => ⟨congrArg (fun z => Outcome.returned (some (Value.long z))) (by unfold fX0_greaterOf; rw [if_pos c_1]), ht⟩) (fun _ h => nomatch h) dX0_greaterOf_14
  · refine lv_lload_n hx hb dX0_greaterOf_9 rfl (lv_at hl 2 rfl) ?_
    refine lv_goto (tgt := 14) hx hb dX0_greaterOf_10 (by decide) ?_
    exact W.lret hx hb hr (fun t ht _ => ⟨congrArg (fun z => Outcome.returned (some (Value.long z))) (by unfold fX0_greaterOf; rw [if_neg c_1]), ht⟩) (fun _ h => nomatch h) dX0_greaterOf_14
def fX0_withSideOf (i : Nat) (x1 : Int64) (x3 : Int64) : Int64 :=
  if (0 : Int64) ≤ x3 then
    fX0_sizeOf i x1
  else
    x1 ||| (kSide i)
theorem hd_X0_withSideOf : yX0_withSideOf.cls = RX0 ∧ yX0_withSideOf.cls ≠ "java/lang/invoke/MethodHandle" ∧ yX0_withSideOf.cls ≠ "java/lang/invoke/VarHandle" ∧ (parseMethodDescriptor yX0_withSideOf.desc).map (fun d => d.parameters.length) = some 2 := by decide +kernel
set_option maxHeartbeats 4000000 in
set_option maxRecDepth 100000 in
theorem c_X0_withSideOf (l : Launch) (ad : Nat → Nat) (i : Nat) (hi : i < 2) (x1 : Int64) (x3 : Int64) : Met l yX0_withSideOf wsX0_withSideOf ({ frames := 1, cells := 0, slots := 0, locals := 22 }) (PK ad [.ref (ad i), .long x1, .long x3]) (k2_QcV (.long (fX0_withSideOf i x1 x3))) 0 0 (fun _ => False) := by
  refine Met.ofW (cc := cX0_withSideOf) (maxL := 5) (ret := (some .long)) (by decide) rfl ?_
  intro p e s m args below meth c s₁ B hml hv
  obtain ⟨rfl, hKC⟩ := hv
  have hx := B.exec
  have hb := B.bytes
  have hr := B.returns
  have hts := atoms_spec (ws := wsX0_withSideOf) B.pre
  have hown : s.vm.findClass RX0 = some m.cls := findClass_of_methodNamed B.named
  have hlocks := B.notSynchronized
  have hS : va_S (fun _ => False) s.heap s.heap [] := va_S.rf
  have hl := lv_entry ([.ref (ad i), .long x1, .long x3]) (n := 5) (Nat.le_of_ble_eq_true rfl)
  rw [lg_entry_eq]
  generalize (lg_sl ([.ref (ad i), .long x1, .long x3]) ++ List.replicate (5 - (lg_sl ([.ref (ad i), .long x1, .long x3])).length) Slot.unset).toArray = ls at hl ⊢
  have hl : lv_has ls 5 [(0, .ref (ad i)), (1, .long x1), (3, .long x3)] := hl
  refine lv_lload_n hx hb dX0_withSideOf_0 rfl (lv_at hl 2 rfl) ?_
  refine lv_lconst (v := 0) hx hb dX0_withSideOf_1 (by decide) ?_
  refine pl_ge (tgt := 15) hx hb dX0_withSideOf_2 dX0_withSideOf_3 (by decide) (fun c_1 => ?_) (fun c_1 => ?_)
  · refine lv_aload_n hx hb dX0_withSideOf_15 rfl (lv_at hl 0 rfl) ?_
    refine lv_lload_n hx hb dX0_withSideOf_16 rfl (lv_at hl 1 rfl) ?_
    refine pc_V (i := i) (As := [.long x1]) (rest := []) (r := .long (fX0_sizeOf i x1)) ⟨hx, hb, hml, hown, hts⟩ (c_X0_sizeOf l ad i hi x1) (cwV 1 hts gX0_withSideOf_X0_sizeOf rfl rfl rfl hd_X0_sizeOf ⟨Nat.le_of_ble_eq_true rfl, Nat.le_of_ble_eq_true rfl⟩) hKC hS hi rfl hl.1 rfl (lv_room (Nat.le_of_ble_eq_true rfl)) dX0_withSideOf_17 ⟨Nat.zero_le _, Nat.zero_le _⟩ ?_
    exact W.lret hx hb hr (fun t ht _ => ⟨congrArg (fun z => Outcome.returned (some (Value.long z))) (by unfold fX0_withSideOf; rw [if_pos c_1]), ht⟩) (fun _ h => nomatch h) dX0_withSideOf_20
  · refine lv_lload_n hx hb dX0_withSideOf_6 rfl (lv_at hl 1 rfl) ?_
    refine lv_aload_n hx hb dX0_withSideOf_7 rfl (lv_at hl 0 rfl) ?_
    refine pk_side hx hb hKC hi hS hown (hts (.fieldLink RX0 36 "NeedleBoard$Kind" "sideBits" "J") (by decide +kernel)) dX0_withSideOf_8 ?_
    refine lv_lor hx hb dX0_withSideOf_11 ?_
    refine lv_goto (tgt := 20) hx hb dX0_withSideOf_12 (by decide) ?_
    exact W.lret hx hb hr (fun t ht _ => ⟨congrArg (fun z => Outcome.returned (some (Value.long z))) (by unfold fX0_withSideOf; rw [if_neg c_1]), ht⟩) (fun _ h => nomatch h) dX0_withSideOf_20
def fX0_negated (i : Nat) (x1 : Int64) : Int64 :=
  if (0 : Int64) ≤ x1 then
    x1 ||| (kSide i)
  else
    fX0_sizeOf i x1
theorem hd_X0_negated : yX0_negated.cls = RX0 ∧ yX0_negated.cls ≠ "java/lang/invoke/MethodHandle" ∧ yX0_negated.cls ≠ "java/lang/invoke/VarHandle" ∧ (parseMethodDescriptor yX0_negated.desc).map (fun d => d.parameters.length) = some 1 := by decide +kernel
set_option maxHeartbeats 4000000 in
set_option maxRecDepth 100000 in
theorem c_X0_negated (l : Launch) (ad : Nat → Nat) (i : Nat) (hi : i < 2) (x1 : Int64) : Met l yX0_negated wsX0_negated ({ frames := 1, cells := 0, slots := 0, locals := 22 }) (PK ad [.ref (ad i), .long x1]) (k2_QcV (.long (fX0_negated i x1))) 0 0 (fun _ => False) := by
  refine Met.ofW (cc := cX0_negated) (maxL := 3) (ret := (some .long)) (by decide) rfl ?_
  intro p e s m args below meth c s₁ B hml hv
  obtain ⟨rfl, hKC⟩ := hv
  have hx := B.exec
  have hb := B.bytes
  have hr := B.returns
  have hts := atoms_spec (ws := wsX0_negated) B.pre
  have hown : s.vm.findClass RX0 = some m.cls := findClass_of_methodNamed B.named
  have hlocks := B.notSynchronized
  have hS : va_S (fun _ => False) s.heap s.heap [] := va_S.rf
  have hl := lv_entry ([.ref (ad i), .long x1]) (n := 3) (Nat.le_of_ble_eq_true rfl)
  rw [lg_entry_eq]
  generalize (lg_sl ([.ref (ad i), .long x1]) ++ List.replicate (3 - (lg_sl ([.ref (ad i), .long x1])).length) Slot.unset).toArray = ls at hl ⊢
  have hl : lv_has ls 3 [(0, .ref (ad i)), (1, .long x1)] := hl
  refine lv_lload_n hx hb dX0_negated_0 rfl (lv_at hl 1 rfl) ?_
  refine lv_lconst (v := 0) hx hb dX0_negated_1 (by decide) ?_
  refine pl_ge (tgt := 14) hx hb dX0_negated_2 dX0_negated_3 (by decide) (fun c_1 => ?_) (fun c_1 => ?_)
  · refine lv_lload_n hx hb dX0_negated_14 rfl (lv_at hl 1 rfl) ?_
    refine lv_aload_n hx hb dX0_negated_15 rfl (lv_at hl 0 rfl) ?_
    refine pk_side hx hb hKC hi hS hown (hts (.fieldLink RX0 36 "NeedleBoard$Kind" "sideBits" "J") (by decide +kernel)) dX0_negated_16 ?_
    refine lv_lor hx hb dX0_negated_19 ?_
    exact W.lret hx hb hr (fun t ht _ => ⟨congrArg (fun z => Outcome.returned (some (Value.long z))) (by unfold fX0_negated; rw [if_pos c_1]), ht⟩) (fun _ h => nomatch h) dX0_negated_20
  · refine lv_aload_n hx hb dX0_negated_6 rfl (lv_at hl 0 rfl) ?_
    refine lv_lload_n hx hb dX0_negated_7 rfl (lv_at hl 1 rfl) ?_
    refine pc_V (i := i) (As := [.long x1]) (rest := []) (r := .long (fX0_sizeOf i x1)) ⟨hx, hb, hml, hown, hts⟩ (c_X0_sizeOf l ad i hi x1) (cwV 1 hts gX0_negated_X0_sizeOf rfl rfl rfl hd_X0_sizeOf ⟨Nat.le_of_ble_eq_true rfl, Nat.le_of_ble_eq_true rfl⟩) hKC hS hi rfl hl.1 rfl (lv_room (Nat.le_of_ble_eq_true rfl)) dX0_negated_8 ⟨Nat.zero_le _, Nat.zero_le _⟩ ?_
    refine lv_goto (tgt := 20) hx hb dX0_negated_11 (by decide) ?_
    exact W.lret hx hb hr (fun t ht _ => ⟨congrArg (fun z => Outcome.returned (some (Value.long z))) (by unfold fX0_negated; rw [if_neg c_1]), ht⟩) (fun _ h => nomatch h) dX0_negated_20
def fX0_unitOf (i : Nat) (x1 : Int64) : Int64 :=
  if (fX0_sizeOf i x1) = (0 : Int64) then
    x1
  else
    fX0_withSideOf i (kOne i) x1
theorem hd_X0_unitOf : yX0_unitOf.cls = RX0 ∧ yX0_unitOf.cls ≠ "java/lang/invoke/MethodHandle" ∧ yX0_unitOf.cls ≠ "java/lang/invoke/VarHandle" ∧ (parseMethodDescriptor yX0_unitOf.desc).map (fun d => d.parameters.length) = some 1 := by decide +kernel
set_option maxHeartbeats 4000000 in
set_option maxRecDepth 100000 in
theorem c_X0_unitOf (l : Launch) (ad : Nat → Nat) (i : Nat) (hi : i < 2) (x1 : Int64) : Met l yX0_unitOf wsX0_unitOf ({ frames := 2, cells := 0, slots := 0, locals := 46 }) (PK ad [.ref (ad i), .long x1]) (k2_QcV (.long (fX0_unitOf i x1))) 0 0 (fun _ => False) := by
  refine Met.ofW (cc := cX0_unitOf) (maxL := 3) (ret := (some .long)) (by decide) rfl ?_
  intro p e s m args below meth c s₁ B hml hv
  obtain ⟨rfl, hKC⟩ := hv
  have hx := B.exec
  have hb := B.bytes
  have hr := B.returns
  have hts := atoms_spec (ws := wsX0_unitOf) B.pre
  have hown : s.vm.findClass RX0 = some m.cls := findClass_of_methodNamed B.named
  have hlocks := B.notSynchronized
  have hS : va_S (fun _ => False) s.heap s.heap [] := va_S.rf
  have hl := lv_entry ([.ref (ad i), .long x1]) (n := 3) (Nat.le_of_ble_eq_true rfl)
  rw [lg_entry_eq]
  generalize (lg_sl ([.ref (ad i), .long x1]) ++ List.replicate (3 - (lg_sl ([.ref (ad i), .long x1])).length) Slot.unset).toArray = ls at hl ⊢
  have hl : lv_has ls 3 [(0, .ref (ad i)), (1, .long x1)] := hl
  refine lv_aload_n hx hb dX0_unitOf_0 rfl (lv_at hl 0 rfl) ?_
  refine lv_lload_n hx hb dX0_unitOf_1 rfl (lv_at hl 1 rfl) ?_
  refine pc_V (i := i) (As := [.long x1]) (rest := []) (r := .long (fX0_sizeOf i x1)) ⟨hx, hb, hml, hown, hts⟩ (c_X0_sizeOf l ad i hi x1) (cwV 1 hts gX0_unitOf_X0_sizeOf rfl rfl rfl hd_X0_sizeOf ⟨Nat.le_of_ble_eq_true rfl, Nat.le_of_ble_eq_true rfl⟩) hKC hS hi rfl hl.1 rfl (lv_room (Nat.le_of_ble_eq_true rfl)) dX0_unitOf_2 ⟨Nat.zero_le _, Nat.zero_le _⟩ ?_
  refine lv_lconst (v := 0) hx hb dX0_unitOf_5 (by decide) ?_
  refine pl_ne (tgt := 14) hx hb dX0_unitOf_6 dX0_unitOf_7 (by decide) (fun c_1 => ?_) (fun c_1 => ?_)
  · refine lv_aload_n hx hb dX0_unitOf_14 rfl (lv_at hl 0 rfl) ?_
    refine lv_aload_n hx hb dX0_unitOf_15 rfl (lv_at hl 0 rfl) ?_
    refine pk_one hx hb hKC hi hS hown (hts (.fieldLink RX0 43 "NeedleBoard$Kind" "one" "J") (by decide +kernel)) dX0_unitOf_16 ?_
    refine lv_lload_n hx hb dX0_unitOf_19 rfl (lv_at hl 1 rfl) ?_
    refine pc_V (i := i) (As := [.long (kOne i), .long x1]) (rest := []) (r := .long (fX0_withSideOf i (kOne i) x1)) ⟨hx, hb, hml, hown, hts⟩ (c_X0_withSideOf l ad i hi (kOne i) x1) (cwV 2 hts gX0_unitOf_X0_withSideOf rfl rfl rfl hd_X0_withSideOf ⟨Nat.le_of_ble_eq_true rfl, Nat.le_of_ble_eq_true rfl⟩) hKC hS hi rfl hl.1 rfl (lv_room (Nat.le_of_ble_eq_true rfl)) dX0_unitOf_20 ⟨Nat.zero_le _, Nat.zero_le _⟩ ?_
    exact W.lret hx hb hr (fun t ht _ => ⟨congrArg (fun z => Outcome.returned (some (Value.long z))) (by unfold fX0_unitOf; rw [if_neg c_1]), ht⟩) (fun _ h => nomatch h) dX0_unitOf_23
  · refine lv_lload_n hx hb dX0_unitOf_10 rfl (lv_at hl 1 rfl) ?_
    refine lv_goto (tgt := 23) hx hb dX0_unitOf_11 (by decide) ?_
    exact W.lret hx hb hr (fun t ht _ => ⟨congrArg (fun z => Outcome.returned (some (Value.long z))) (by unfold fX0_unitOf; rw [if_pos c_1]), ht⟩) (fun _ h => nomatch h) dX0_unitOf_23
def fX0_isNumber (i : Nat) (x1 : Int64) : Int32 :=
  if (kInf i) < (fX0_sizeOf i x1) then
    (0 : Int32)
  else
    (1 : Int32)
theorem hd_X0_isNumber : yX0_isNumber.cls = RX0 ∧ yX0_isNumber.cls ≠ "java/lang/invoke/MethodHandle" ∧ yX0_isNumber.cls ≠ "java/lang/invoke/VarHandle" ∧ (parseMethodDescriptor yX0_isNumber.desc).map (fun d => d.parameters.length) = some 1 := by decide +kernel
set_option maxHeartbeats 4000000 in
set_option maxRecDepth 100000 in
theorem c_X0_isNumber (l : Launch) (ad : Nat → Nat) (i : Nat) (hi : i < 2) (x1 : Int64) : Met l yX0_isNumber wsX0_isNumber ({ frames := 1, cells := 0, slots := 0, locals := 22 }) (PK ad [.ref (ad i), .long x1]) (k2_QcV (.int (fX0_isNumber i x1))) 0 0 (fun _ => False) := by
  refine Met.ofW (cc := cX0_isNumber) (maxL := 3) (ret := (some .boolean)) (by decide) rfl ?_
  intro p e s m args below meth c s₁ B hml hv
  obtain ⟨rfl, hKC⟩ := hv
  have hx := B.exec
  have hb := B.bytes
  have hr := B.returns
  have hts := atoms_spec (ws := wsX0_isNumber) B.pre
  have hown : s.vm.findClass RX0 = some m.cls := findClass_of_methodNamed B.named
  have hlocks := B.notSynchronized
  have hS : va_S (fun _ => False) s.heap s.heap [] := va_S.rf
  have hl := lv_entry ([.ref (ad i), .long x1]) (n := 3) (Nat.le_of_ble_eq_true rfl)
  rw [lg_entry_eq]
  generalize (lg_sl ([.ref (ad i), .long x1]) ++ List.replicate (3 - (lg_sl ([.ref (ad i), .long x1])).length) Slot.unset).toArray = ls at hl ⊢
  have hl : lv_has ls 3 [(0, .ref (ad i)), (1, .long x1)] := hl
  refine lv_aload_n hx hb dX0_isNumber_0 rfl (lv_at hl 0 rfl) ?_
  refine lv_lload_n hx hb dX0_isNumber_1 rfl (lv_at hl 1 rfl) ?_
  refine pc_V (i := i) (As := [.long x1]) (rest := []) (r := .long (fX0_sizeOf i x1)) ⟨hx, hb, hml, hown, hts⟩ (c_X0_sizeOf l ad i hi x1) (cwV 1 hts gX0_isNumber_X0_sizeOf rfl rfl rfl hd_X0_sizeOf ⟨Nat.le_of_ble_eq_true rfl, Nat.le_of_ble_eq_true rfl⟩) hKC hS hi rfl hl.1 rfl (lv_room (Nat.le_of_ble_eq_true rfl)) dX0_isNumber_2 ⟨Nat.zero_le _, Nat.zero_le _⟩ ?_
  refine lv_aload_n hx hb dX0_isNumber_5 rfl (lv_at hl 0 rfl) ?_
  refine pk_inf hx hb hKC hi hS hown (hts (.fieldLink RX0 48 "NeedleBoard$Kind" "infinity" "J") (by decide +kernel)) dX0_isNumber_6 ?_
  refine pl_gt (tgt := 17) hx hb dX0_isNumber_9 dX0_isNumber_10 (by decide) (fun c_1 => ?_) (fun c_1 => ?_)
  · refine lv_iconst (v := 0) hx hb dX0_isNumber_17 (by decide) ?_
    exact W.zret hx hb hr (by decide) (fun t ht _ => ⟨congrArg (fun z => Outcome.returned (some (Value.int z))) (by unfold fX0_isNumber; rw [if_pos c_1]), ht⟩) (fun _ h => nomatch h) dX0_isNumber_18
  · refine lv_iconst (v := 1) hx hb dX0_isNumber_13 (by decide) ?_
    refine lv_goto (tgt := 18) hx hb dX0_isNumber_14 (by decide) ?_
    exact W.zret hx hb hr (by decide) (fun t ht _ => ⟨congrArg (fun z => Outcome.returned (some (Value.int z))) (by unfold fX0_isNumber; rw [if_neg c_1]), ht⟩) (fun _ h => nomatch h) dX0_isNumber_18
def fX0_trimmed (i : Nat) (x1 : Int64) : Int64 :=
  if i = 1 then
    x1.toInt32.toInt64
  else
    x1
theorem hd_X0_trimmed : yX0_trimmed.cls = RX0 ∧ yX0_trimmed.cls ≠ "java/lang/invoke/MethodHandle" ∧ yX0_trimmed.cls ≠ "java/lang/invoke/VarHandle" ∧ (parseMethodDescriptor yX0_trimmed.desc).map (fun d => d.parameters.length) = some 1 := by decide +kernel
set_option maxHeartbeats 4000000 in
set_option maxRecDepth 100000 in
theorem c_X0_trimmed (l : Launch) (ad : Nat → Nat) (i : Nat) (hi : i < 2) (x1 : Int64) : Met l yX0_trimmed wsX0_trimmed ({ frames := 0, cells := 0, slots := 0, locals := 0 }) (PK ad [.ref (ad i), .long x1]) (k2_QcV (.long (fX0_trimmed i x1))) 0 0 (fun _ => False) := by
  refine Met.ofW (cc := cX0_trimmed) (maxL := 3) (ret := (some .long)) (by decide) rfl ?_
  intro p e s m args below meth c s₁ B hml hv
  obtain ⟨rfl, hKC⟩ := hv
  have hx := B.exec
  have hb := B.bytes
  have hr := B.returns
  have hts := atoms_spec (ws := wsX0_trimmed) B.pre
  have hown : s.vm.findClass RX0 = some m.cls := findClass_of_methodNamed B.named
  have hlocks := B.notSynchronized
  have hS : va_S (fun _ => False) s.heap s.heap [] := va_S.rf
  have hl := lv_entry ([.ref (ad i), .long x1]) (n := 3) (Nat.le_of_ble_eq_true rfl)
  rw [lg_entry_eq]
  generalize (lg_sl ([.ref (ad i), .long x1]) ++ List.replicate (3 - (lg_sl ([.ref (ad i), .long x1])).length) Slot.unset).toArray = ls at hl ⊢
  have hl : lv_has ls 3 [(0, .ref (ad i)), (1, .long x1)] := hl
  refine lv_aload_n hx hb dX0_trimmed_0 rfl (lv_at hl 0 rfl) ?_
  refine pk_coarse hx hb hKC hS hown (hts (.fieldLink RX0 7 "NeedleBoard$Kind" "COARSE" "LNeedleBoard$Kind;") (by decide +kernel)) dX0_trimmed_1 ?_
  refine pa_ne (tgt := 13) hx hb hKC hi (by decide) dX0_trimmed_4 (by decide) (fun c_1 => ?_) (fun c_1 => ?_)
  · refine lv_lload_n hx hb dX0_trimmed_13 rfl (lv_at hl 1 rfl) ?_
    exact W.lret hx hb hr (fun t ht _ => ⟨congrArg (fun z => Outcome.returned (some (Value.long z))) (by unfold fX0_trimmed; rw [if_neg c_1]), ht⟩) (fun _ h => nomatch h) dX0_trimmed_14
  · refine lv_lload_n hx hb dX0_trimmed_7 rfl (lv_at hl 1 rfl) ?_
    refine lv_l2i hx hb dX0_trimmed_8 rfl ?_
    refine lv_i2l hx hb dX0_trimmed_9 rfl ?_
    refine lv_goto (tgt := 14) hx hb dX0_trimmed_10 (by decide) ?_
    exact W.lret hx hb hr (fun t ht _ => ⟨congrArg (fun z => Outcome.returned (some (Value.long z))) (by unfold fX0_trimmed; rw [if_pos c_1]), ht⟩) (fun _ h => nomatch h) dX0_trimmed_14
def fX0_areAlike (i : Nat) (x1 : Int64) (x3 : Int64) : Int32 :=
  if x1 = x3 then
    (1 : Int32)
  else
    if (fX0_sizeOf i x1) = (0 : Int64) then
      if (fX0_sizeOf i x3) = (0 : Int64) then
        (1 : Int32)
      else
        (0 : Int32)
    else
      (0 : Int32)
theorem hd_X0_areAlike : yX0_areAlike.cls = RX0 ∧ yX0_areAlike.cls ≠ "java/lang/invoke/MethodHandle" ∧ yX0_areAlike.cls ≠ "java/lang/invoke/VarHandle" ∧ (parseMethodDescriptor yX0_areAlike.desc).map (fun d => d.parameters.length) = some 2 := by decide +kernel
set_option maxHeartbeats 4000000 in
set_option maxRecDepth 100000 in
theorem c_X0_areAlike (l : Launch) (ad : Nat → Nat) (i : Nat) (hi : i < 2) (x1 : Int64) (x3 : Int64) : Met l yX0_areAlike wsX0_areAlike ({ frames := 1, cells := 0, slots := 0, locals := 22 }) (PK ad [.ref (ad i), .long x1, .long x3]) (k2_QcV (.int (fX0_areAlike i x1 x3))) 0 0 (fun _ => False) := by
  refine Met.ofW (cc := cX0_areAlike) (maxL := 5) (ret := (some .boolean)) (by decide) rfl ?_
  intro p e s m args below meth c s₁ B hml hv
  obtain ⟨rfl, hKC⟩ := hv
  have hx := B.exec
  have hb := B.bytes
  have hr := B.returns
  have hts := atoms_spec (ws := wsX0_areAlike) B.pre
  have hown : s.vm.findClass RX0 = some m.cls := findClass_of_methodNamed B.named
  have hlocks := B.notSynchronized
  have hS : va_S (fun _ => False) s.heap s.heap [] := va_S.rf
  have hl := lv_entry ([.ref (ad i), .long x1, .long x3]) (n := 5) (Nat.le_of_ble_eq_true rfl)
  rw [lg_entry_eq]
  generalize (lg_sl ([.ref (ad i), .long x1, .long x3]) ++ List.replicate (5 - (lg_sl ([.ref (ad i), .long x1, .long x3])).length) Slot.unset).toArray = ls at hl ⊢
  have hl : lv_has ls 5 [(0, .ref (ad i)), (1, .long x1), (3, .long x3)] := hl
  refine lv_lload_n hx hb dX0_areAlike_0 rfl (lv_at hl 1 rfl) ?_
  refine lv_lload_n hx hb dX0_areAlike_1 rfl (lv_at hl 2 rfl) ?_
  refine pl_eq (tgt := 26) hx hb dX0_areAlike_2 dX0_areAlike_3 (by decide) (fun c_1 => ?_) (fun c_1 => ?_)
  · refine lv_iconst (v := 1) hx hb dX0_areAlike_26 (by decide) ?_
    refine lv_goto (tgt := 31) hx hb dX0_areAlike_27 (by decide) ?_
    exact W.zret hx hb hr (by decide) (fun t ht _ => ⟨congrArg (fun z => Outcome.returned (some (Value.int z))) (by unfold fX0_areAlike; rw [if_pos c_1]), ht⟩) (fun _ h => nomatch h) dX0_areAlike_31
  · refine lv_aload_n hx hb dX0_areAlike_6 rfl (lv_at hl 0 rfl) ?_
    refine lv_lload_n hx hb dX0_areAlike_7 rfl (lv_at hl 1 rfl) ?_
    refine pc_V (i := i) (As := [.long x1]) (rest := []) (r := .long (fX0_sizeOf i x1)) ⟨hx, hb, hml, hown, hts⟩ (c_X0_sizeOf l ad i hi x1) (cwV 1 hts gX0_areAlike_X0_sizeOf rfl rfl rfl hd_X0_sizeOf ⟨Nat.le_of_ble_eq_true rfl, Nat.le_of_ble_eq_true rfl⟩) hKC hS hi rfl hl.1 rfl (lv_room (Nat.le_of_ble_eq_true rfl)) dX0_areAlike_8 ⟨Nat.zero_le _, Nat.zero_le _⟩ ?_
    refine lv_lconst (v := 0) hx hb dX0_areAlike_11 (by decide) ?_
    refine pl_ne (tgt := 30) hx hb dX0_areAlike_12 dX0_areAlike_13 (by decide) (fun c_2 => ?_) (fun c_2 => ?_)
    · refine lv_iconst (v := 0) hx hb dX0_areAlike_30 (by decide) ?_
      exact W.zret hx hb hr (by decide) (fun t ht _ => ⟨congrArg (fun z => Outcome.returned (some (Value.int z))) (by unfold fX0_areAlike; rw [if_neg c_1, if_neg c_2]), ht⟩) (fun _ h => nomatch h) dX0_areAlike_31
    · refine lv_aload_n hx hb dX0_areAlike_16 rfl (lv_at hl 0 rfl) ?_
      refine lv_lload_n hx hb dX0_areAlike_17 rfl (lv_at hl 2 rfl) ?_
      refine pc_V (i := i) (As := [.long x3]) (rest := []) (r := .long (fX0_sizeOf i x3)) ⟨hx, hb, hml, hown, hts⟩ (c_X0_sizeOf l ad i hi x3) (cwV 1 hts gX0_areAlike_X0_sizeOf rfl rfl rfl hd_X0_sizeOf ⟨Nat.le_of_ble_eq_true rfl, Nat.le_of_ble_eq_true rfl⟩) hKC hS hi rfl hl.1 rfl (lv_room (Nat.le_of_ble_eq_true rfl)) dX0_areAlike_18 ⟨Nat.zero_le _, Nat.zero_le _⟩ ?_
      refine lv_lconst (v := 0) hx hb dX0_areAlike_21 (by decide) ?_
      refine pl_ne (tgt := 30) hx hb dX0_areAlike_22 dX0_areAlike_23 (by decide) (fun c_3 => ?_) (fun c_3 => ?_)
      · refine lv_iconst (v := 0) hx hb dX0_areAlike_30 (by decide) ?_
        exact W.zret hx hb hr (by decide) (fun t ht _ => ⟨congrArg (fun z => Outcome.returned (some (Value.int z))) (by unfold fX0_areAlike; rw [if_neg c_1, if_pos c_2, if_neg c_3]), ht⟩) (fun _ h => nomatch h) dX0_areAlike_31
      · refine lv_iconst (v := 1) hx hb dX0_areAlike_26 (by decide) ?_
        refine lv_goto (tgt := 31) hx hb dX0_areAlike_27 (by decide) ?_
        exact W.zret hx hb hr (by decide) (fun t ht _ => ⟨congrArg (fun z => Outcome.returned (some (Value.int z))) (by unfold fX0_areAlike; rw [if_neg c_1, if_pos c_2, if_pos c_3]), ht⟩) (fun _ h => nomatch h) dX0_areAlike_31
def fX0_areOppositeInfinities (i : Nat) (x1 : Int64) (x3 : Int64) : Int32 :=
  if (fX0_sizeOf i x1) = (kInf i) then
    if x3 = (fX0_negated i x1) then
      (1 : Int32)
    else
      (0 : Int32)
  else
    (0 : Int32)
theorem hd_X0_areOppositeInfinities : yX0_areOppositeInfinities.cls = RX0 ∧ yX0_areOppositeInfinities.cls ≠ "java/lang/invoke/MethodHandle" ∧ yX0_areOppositeInfinities.cls ≠ "java/lang/invoke/VarHandle" ∧ (parseMethodDescriptor yX0_areOppositeInfinities.desc).map (fun d => d.parameters.length) = some 2 := by decide +kernel
set_option maxHeartbeats 4000000 in
set_option maxRecDepth 100000 in
theorem c_X0_areOppositeInfinities (l : Launch) (ad : Nat → Nat) (i : Nat) (hi : i < 2) (x1 : Int64) (x3 : Int64) : Met l yX0_areOppositeInfinities wsX0_areOppositeInfinities ({ frames := 2, cells := 0, slots := 0, locals := 44 }) (PK ad [.ref (ad i), .long x1, .long x3]) (k2_QcV (.int (fX0_areOppositeInfinities i x1 x3))) 0 0 (fun _ => False) := by
  refine Met.ofW (cc := cX0_areOppositeInfinities) (maxL := 5) (ret := (some .boolean)) (by decide) rfl ?_
  intro p e s m args below meth c s₁ B hml hv
  obtain ⟨rfl, hKC⟩ := hv
  have hx := B.exec
  have hb := B.bytes
  have hr := B.returns
  have hts := atoms_spec (ws := wsX0_areOppositeInfinities) B.pre
  have hown : s.vm.findClass RX0 = some m.cls := findClass_of_methodNamed B.named
  have hlocks := B.notSynchronized
  have hS : va_S (fun _ => False) s.heap s.heap [] := va_S.rf
  have hl := lv_entry ([.ref (ad i), .long x1, .long x3]) (n := 5) (Nat.le_of_ble_eq_true rfl)
  rw [lg_entry_eq]
  generalize (lg_sl ([.ref (ad i), .long x1, .long x3]) ++ List.replicate (5 - (lg_sl ([.ref (ad i), .long x1, .long x3])).length) Slot.unset).toArray = ls at hl ⊢
  have hl : lv_has ls 5 [(0, .ref (ad i)), (1, .long x1), (3, .long x3)] := hl
  refine lv_aload_n hx hb dX0_areOppositeInfinities_0 rfl (lv_at hl 0 rfl) ?_
  refine lv_lload_n hx hb dX0_areOppositeInfinities_1 rfl (lv_at hl 1 rfl) ?_
  refine pc_V (i := i) (As := [.long x1]) (rest := []) (r := .long (fX0_sizeOf i x1)) ⟨hx, hb, hml, hown, hts⟩ (c_X0_sizeOf l ad i hi x1) (cwV 1 hts gX0_areOppositeInfinities_X0_sizeOf rfl rfl rfl hd_X0_sizeOf ⟨Nat.le_of_ble_eq_true rfl, Nat.le_of_ble_eq_true rfl⟩) hKC hS hi rfl hl.1 rfl (lv_room (Nat.le_of_ble_eq_true rfl)) dX0_areOppositeInfinities_2 ⟨Nat.zero_le _, Nat.zero_le _⟩ ?_
  refine lv_aload_n hx hb dX0_areOppositeInfinities_5 rfl (lv_at hl 0 rfl) ?_
  refine pk_inf hx hb hKC hi hS hown (hts (.fieldLink RX0 48 "NeedleBoard$Kind" "infinity" "J") (by decide +kernel)) dX0_areOppositeInfinities_6 ?_
  refine pl_ne (tgt := 27) hx hb dX0_areOppositeInfinities_9 dX0_areOppositeInfinities_10 (by decide) (fun c_1 => ?_) (fun c_1 => ?_)
  · refine lv_iconst (v := 0) hx hb dX0_areOppositeInfinities_27 (by decide) ?_
    exact W.zret hx hb hr (by decide) (fun t ht _ => ⟨congrArg (fun z => Outcome.returned (some (Value.int z))) (by unfold fX0_areOppositeInfinities; rw [if_neg c_1]), ht⟩) (fun _ h => nomatch h) dX0_areOppositeInfinities_28
  · refine lv_lload_n hx hb dX0_areOppositeInfinities_13 rfl (lv_at hl 2 rfl) ?_
    refine lv_aload_n hx hb dX0_areOppositeInfinities_14 rfl (lv_at hl 0 rfl) ?_
    refine lv_lload_n hx hb dX0_areOppositeInfinities_15 rfl (lv_at hl 1 rfl) ?_
    refine pc_V (i := i) (As := [.long x1]) (rest := [.long x3]) (r := .long (fX0_negated i x1)) ⟨hx, hb, hml, hown, hts⟩ (c_X0_negated l ad i hi x1) (cwV 1 hts gX0_areOppositeInfinities_X0_negated rfl rfl rfl hd_X0_negated ⟨Nat.le_of_ble_eq_true rfl, Nat.le_of_ble_eq_true rfl⟩) hKC hS hi rfl hl.1 rfl (lv_room (Nat.le_of_ble_eq_true rfl)) dX0_areOppositeInfinities_16 ⟨Nat.zero_le _, Nat.zero_le _⟩ ?_
    refine pl_ne (tgt := 27) hx hb dX0_areOppositeInfinities_19 dX0_areOppositeInfinities_20 (by decide) (fun c_2 => ?_) (fun c_2 => ?_)
    · refine lv_iconst (v := 0) hx hb dX0_areOppositeInfinities_27 (by decide) ?_
      exact W.zret hx hb hr (by decide) (fun t ht _ => ⟨congrArg (fun z => Outcome.returned (some (Value.int z))) (by unfold fX0_areOppositeInfinities; rw [if_pos c_1, if_neg c_2]), ht⟩) (fun _ h => nomatch h) dX0_areOppositeInfinities_28
    · refine lv_iconst (v := 1) hx hb dX0_areOppositeInfinities_23 (by decide) ?_
      refine lv_goto (tgt := 28) hx hb dX0_areOppositeInfinities_24 (by decide) ?_
      exact W.zret hx hb hr (by decide) (fun t ht _ => ⟨congrArg (fun z => Outcome.returned (some (Value.int z))) (by unfold fX0_areOppositeInfinities; rw [if_pos c_1, if_pos c_2]), ht⟩) (fun _ h => nomatch h) dX0_areOppositeInfinities_28
def fX0_exponentOf (i : Nat) (x1 : Int64) : Int32 :=
  if (1 : Int32) < (x1 >>> ((kFrac i).toInt64 &&& 63)).toInt32 then (x1 >>> ((kFrac i).toInt64 &&& 63)).toInt32 else (1 : Int32)
theorem hd_X0_exponentOf : yX0_exponentOf.cls = RX0 ∧ yX0_exponentOf.cls ≠ "java/lang/invoke/MethodHandle" ∧ yX0_exponentOf.cls ≠ "java/lang/invoke/VarHandle" ∧ (parseMethodDescriptor yX0_exponentOf.desc).map (fun d => d.parameters.length) = some 1 := by decide +kernel
set_option maxHeartbeats 4000000 in
set_option maxRecDepth 100000 in
theorem c_X0_exponentOf (l : Launch) (ad : Nat → Nat) (i : Nat) (hi : i < 2) (x1 : Int64) : Met l yX0_exponentOf wsX0_exponentOf ({ frames := 1, cells := 0, slots := 0, locals := 13 }) (PK ad [.ref (ad i), .long x1]) (k2_QcV (.int (fX0_exponentOf i x1))) 0 0 (fun _ => False) := by
  refine Met.ofW (cc := cX0_exponentOf) (maxL := 3) (ret := (some .int)) (by decide) rfl ?_
  intro p e s m args below meth c s₁ B hml hv
  obtain ⟨rfl, hKC⟩ := hv
  have hx := B.exec
  have hb := B.bytes
  have hr := B.returns
  have hts := atoms_spec (ws := wsX0_exponentOf) B.pre
  have hown : s.vm.findClass RX0 = some m.cls := findClass_of_methodNamed B.named
  have hlocks := B.notSynchronized
  have hS : va_S (fun _ => False) s.heap s.heap [] := va_S.rf
  have hl := lv_entry ([.ref (ad i), .long x1]) (n := 3) (Nat.le_of_ble_eq_true rfl)
  rw [lg_entry_eq]
  generalize (lg_sl ([.ref (ad i), .long x1]) ++ List.replicate (3 - (lg_sl ([.ref (ad i), .long x1])).length) Slot.unset).toArray = ls at hl ⊢
  have hl : lv_has ls 3 [(0, .ref (ad i)), (1, .long x1)] := hl
  refine lv_iconst (v := 1) hx hb dX0_exponentOf_0 (by decide) ?_
  refine lv_lload_n hx hb dX0_exponentOf_1 rfl (lv_at hl 1 rfl) ?_
  refine lv_aload_n hx hb dX0_exponentOf_2 rfl (lv_at hl 0 rfl) ?_
  refine pk_frac hx hb hKC hi hS hown (hts (.fieldLink RX0 29 "NeedleBoard$Kind" "fractionBits" "I") (by decide +kernel)) dX0_exponentOf_3 ?_
  refine lv_lshr hx hb dX0_exponentOf_6 rfl ?_
  refine lv_l2i hx hb dX0_exponentOf_7 rfl ?_
  refine va_mmax hx hb (hml.trans hl.1.symm) hown (hts (.methodLink RX0 92 Lib.Math.max.name) (by decide +kernel)) (hts (.static Lib.Math.max.name) (by decide +kernel)) (hts (.initialized "java/lang/Math") (by decide +kernel)) (hts (.code Lib.Math.max.name Lib.Math.max.code 2 (some .int)) (by decide +kernel)) (Nat.le_of_ble_eq_true rfl) (Nat.le_of_ble_eq_true rfl) (Nat.zero_le _) (Nat.zero_le _) dX0_exponentOf_8 ?_
  exact W.iret hx hb hr (fun t ht _ => ⟨congrArg (fun z => Outcome.returned (some (Value.int z))) rfl, ht⟩) (fun _ h => nomatch h) dX0_exponentOf_11
def fX0_significandOf (i : Nat) (x1 : Int64) : Int64 :=
  if (kHid i) ≤ x1 then
    (x1 &&& ((kHid i) - (1 : Int64))) ||| (kHid i)
  else
    x1 &&& ((kHid i) - (1 : Int64))
theorem hd_X0_significandOf : yX0_significandOf.cls = RX0 ∧ yX0_significandOf.cls ≠ "java/lang/invoke/MethodHandle" ∧ yX0_significandOf.cls ≠ "java/lang/invoke/VarHandle" ∧ (parseMethodDescriptor yX0_significandOf.desc).map (fun d => d.parameters.length) = some 1 := by decide +kernel
set_option maxHeartbeats 4000000 in
set_option maxRecDepth 100000 in
theorem c_X0_significandOf (l : Launch) (ad : Nat → Nat) (i : Nat) (hi : i < 2) (x1 : Int64) : Met l yX0_significandOf wsX0_significandOf ({ frames := 0, cells := 0, slots := 0, locals := 0 }) (PK ad [.ref (ad i), .long x1]) (k2_QcV (.long (fX0_significandOf i x1))) 0 0 (fun _ => False) := by
  refine Met.ofW (cc := cX0_significandOf) (maxL := 5) (ret := (some .long)) (by decide) rfl ?_
  intro p e s m args below meth c s₁ B hml hv
  obtain ⟨rfl, hKC⟩ := hv
  have hx := B.exec
  have hb := B.bytes
  have hr := B.returns
  have hts := atoms_spec (ws := wsX0_significandOf) B.pre
  have hown : s.vm.findClass RX0 = some m.cls := findClass_of_methodNamed B.named
  have hlocks := B.notSynchronized
  have hS : va_S (fun _ => False) s.heap s.heap [] := va_S.rf
  have hl := lv_entry ([.ref (ad i), .long x1]) (n := 5) (Nat.le_of_ble_eq_true rfl)
  rw [lg_entry_eq]
  generalize (lg_sl ([.ref (ad i), .long x1]) ++ List.replicate (5 - (lg_sl ([.ref (ad i), .long x1])).length) Slot.unset).toArray = ls at hl ⊢
  have hl : lv_has ls 5 [(0, .ref (ad i)), (1, .long x1)] := hl
  refine lv_lload_n hx hb dX0_significandOf_0 rfl (lv_at hl 1 rfl) ?_
  refine lv_aload_n hx hb dX0_significandOf_1 rfl (lv_at hl 0 rfl) ?_
  refine pk_hid hx hb hKC hi hS hown (hts (.fieldLink RX0 40 "NeedleBoard$Kind" "hiddenBit" "J") (by decide +kernel)) dX0_significandOf_2 ?_
  refine lv_lconst (v := 1) hx hb dX0_significandOf_5 (by decide) ?_
  refine lv_lsub hx hb dX0_significandOf_6 ?_
  refine lv_land hx hb dX0_significandOf_7 ?_
  refine lv_lstore_n (lv' := [(3, .long (x1 &&& ((kHid i) - (1 : Int64)))), (0, .ref (ad i)), (1, .long x1)]) hx hb dX0_significandOf_8 rfl hl (by decide) rfl (fun ls hl => ?_)
  refine lv_lload_n hx hb dX0_significandOf_9 rfl (lv_at hl 2 rfl) ?_
  refine lv_aload_n hx hb dX0_significandOf_10 rfl (lv_at hl 1 rfl) ?_
  refine pk_hid hx hb hKC hi hS hown (hts (.fieldLink RX0 40 "NeedleBoard$Kind" "hiddenBit" "J") (by decide +kernel)) dX0_significandOf_11 ?_
  refine pl_ge (tgt := 22) hx hb dX0_significandOf_14 dX0_significandOf_15 (by decide) (fun c_1 => ?_) (fun c_1 => ?_)
  · refine lv_lload_n hx hb dX0_significandOf_22 rfl (lv_at hl 0 rfl) ?_
    refine lv_aload_n hx hb dX0_significandOf_23 rfl (lv_at hl 1 rfl) ?_
    refine pk_hid hx hb hKC hi hS hown (hts (.fieldLink RX0 40 "NeedleBoard$Kind" "hiddenBit" "J") (by decide +kernel)) dX0_significandOf_24 ?_
    refine lv_lor hx hb dX0_significandOf_27 ?_
    exact W.lret hx hb hr (fun t ht _ => ⟨congrArg (fun z => Outcome.returned (some (Value.long z))) (by unfold fX0_significandOf; rw [if_pos c_1]), ht⟩) (fun _ h => nomatch h) dX0_significandOf_28
  · refine lv_lload_n hx hb dX0_significandOf_18 rfl (lv_at hl 0 rfl) ?_
    refine lv_goto (tgt := 28) hx hb dX0_significandOf_19 (by decide) ?_
    exact W.lret hx hb hr (fun t ht _ => ⟨congrArg (fun z => Outcome.returned (some (Value.long z))) (by unfold fX0_significandOf; rw [if_neg c_1]), ht⟩) (fun _ h => nomatch h) dX0_significandOf_28
def fX0_shiftedDown (x0 : Int64) (x2 : Int32) : Int64 :=
  if x2 < (64 : Int32) then
    if ((x0 >>> (x2.toInt64 &&& 63)) <<< (x2.toInt64 &&& 63)) = x0 then
      x0 >>> (x2.toInt64 &&& 63)
    else
      (x0 >>> (x2.toInt64 &&& 63)) ||| (1 : Int64)
  else
    if x0 = (0 : Int64) then
      (0 : Int64)
    else
      (1 : Int64)
theorem hd_X0_shiftedDown : yX0_shiftedDown.cls ≠ "java/lang/invoke/MethodHandle" ∧ yX0_shiftedDown.cls ≠ "java/lang/invoke/VarHandle" ∧ (parseMethodDescriptor yX0_shiftedDown.desc).map (fun d => d.parameters.length) = some 2 := by decide +kernel
set_option maxHeartbeats 4000000 in
set_option maxRecDepth 100000 in
theorem c_X0_shiftedDown (l : Launch) (x0 : Int64) (x2 : Int32) : Met l yX0_shiftedDown wsX0_shiftedDown ({ frames := 0, cells := 0, slots := 0, locals := 0 }) (P0 [.long x0, .int x2]) (k2_QcV (.long (fX0_shiftedDown x0 x2))) 0 0 (fun _ => False) := by
  refine Met.ofW (cc := cX0_shiftedDown) (maxL := 5) (ret := (some .long)) (by decide) rfl ?_
  intro p e s m args below meth c s₁ B hml hv
  have hv2 : args = _ := hv
  subst hv2
  have hx := B.exec
  have hb := B.bytes
  have hr := B.returns
  have hts := atoms_spec (ws := wsX0_shiftedDown) B.pre
  have hown : s.vm.findClass RX0 = some m.cls := findClass_of_methodNamed B.named
  have hlocks := B.notSynchronized
  have hl := lv_entry ([.long x0, .int x2]) (n := 5) (Nat.le_of_ble_eq_true rfl)
  rw [lg_entry_eq]
  generalize (lg_sl ([.long x0, .int x2]) ++ List.replicate (5 - (lg_sl ([.long x0, .int x2])).length) Slot.unset).toArray = ls at hl ⊢
  have hl : lv_has ls 5 [(0, .long x0), (2, .int x2)] := hl
  refine lv_iload_n hx hb dX0_shiftedDown_0 rfl (lv_at hl 1 rfl) ?_
  refine lv_bipush (v := (64)) hx hb dX0_shiftedDown_1 (by decide) ?_
  refine lv_icmp_lt (tgt := 18) hx hb dX0_shiftedDown_3 (by decide) (fun c_1 => ?_) (fun c_1 => ?_)
  · refine lv_lload_n hx hb dX0_shiftedDown_18 rfl (lv_at hl 0 rfl) ?_
    refine lv_iload_n hx hb dX0_shiftedDown_19 rfl (lv_at hl 1 rfl) ?_
    refine lv_lshr hx hb dX0_shiftedDown_20 rfl ?_
    refine lv_lstore_n (lv' := [(3, .long (x0 >>> (x2.toInt64 &&& 63))), (0, .long x0), (2, .int x2)]) hx hb dX0_shiftedDown_21 rfl hl (by decide) rfl (fun ls hl => ?_)
    refine lv_lload_n hx hb dX0_shiftedDown_22 rfl (lv_at hl 0 rfl) ?_
    refine lv_iload_n hx hb dX0_shiftedDown_23 rfl (lv_at hl 2 rfl) ?_
    refine lv_lshl hx hb dX0_shiftedDown_24 rfl ?_
    refine lv_lload_n hx hb dX0_shiftedDown_25 rfl (lv_at hl 1 rfl) ?_
    refine pl_ne (tgt := 34) hx hb dX0_shiftedDown_26 dX0_shiftedDown_27 (by decide) (fun c_2 => ?_) (fun c_2 => ?_)
    · refine lv_lload_n hx hb dX0_shiftedDown_34 rfl (lv_at hl 0 rfl) ?_
      refine lv_lconst (v := 1) hx hb dX0_shiftedDown_35 (by decide) ?_
      refine lv_lor hx hb dX0_shiftedDown_36 ?_
      exact W.lret hx hb hr (fun t ht _ => ⟨congrArg (fun z => Outcome.returned (some (Value.long z))) (by unfold fX0_shiftedDown; rw [if_pos c_1, if_neg c_2]), ht⟩) (fun _ h => nomatch h) dX0_shiftedDown_37
    · refine lv_lload_n hx hb dX0_shiftedDown_30 rfl (lv_at hl 0 rfl) ?_
      refine lv_goto (tgt := 37) hx hb dX0_shiftedDown_31 (by decide) ?_
      exact W.lret hx hb hr (fun t ht _ => ⟨congrArg (fun z => Outcome.returned (some (Value.long z))) (by unfold fX0_shiftedDown; rw [if_pos c_1, if_pos c_2]), ht⟩) (fun _ h => nomatch h) dX0_shiftedDown_37
  · refine lv_lload_n hx hb dX0_shiftedDown_6 rfl (lv_at hl 0 rfl) ?_
    refine lv_lconst (v := 0) hx hb dX0_shiftedDown_7 (by decide) ?_
    refine pl_ne (tgt := 16) hx hb dX0_shiftedDown_8 dX0_shiftedDown_9 (by decide) (fun c_3 => ?_) (fun c_3 => ?_)
    · refine lv_lconst (v := 1) hx hb dX0_shiftedDown_16 (by decide) ?_
      exact W.lret hx hb hr (fun t ht _ => ⟨congrArg (fun z => Outcome.returned (some (Value.long z))) (by unfold fX0_shiftedDown; rw [if_neg c_1, if_neg c_3]), ht⟩) (fun _ h => nomatch h) dX0_shiftedDown_17
    · refine lv_lconst (v := 0) hx hb dX0_shiftedDown_12 (by decide) ?_
      refine lv_goto (tgt := 17) hx hb dX0_shiftedDown_13 (by decide) ?_
      exact W.lret hx hb hr (fun t ht _ => ⟨congrArg (fun z => Outcome.returned (some (Value.long z))) (by unfold fX0_shiftedDown; rw [if_neg c_1, if_pos c_3]), ht⟩) (fun _ h => nomatch h) dX0_shiftedDown_17
def fX0_isRoundedUp (x0 : Int64) (x2 : Int64) (x4 : Int64) : Int32 :=
  if x2 < x0 then
    (1 : Int32)
  else
    if x0 = x2 then
      if (x4 &&& (1 : Int64)) = (1 : Int64) then
        (1 : Int32)
      else
        (0 : Int32)
    else
      (0 : Int32)
theorem hd_X0_isRoundedUp : yX0_isRoundedUp.cls ≠ "java/lang/invoke/MethodHandle" ∧ yX0_isRoundedUp.cls ≠ "java/lang/invoke/VarHandle" ∧ (parseMethodDescriptor yX0_isRoundedUp.desc).map (fun d => d.parameters.length) = some 3 := by decide +kernel
set_option maxHeartbeats 4000000 in
set_option maxRecDepth 100000 in
theorem c_X0_isRoundedUp (l : Launch) (x0 : Int64) (x2 : Int64) (x4 : Int64) : Met l yX0_isRoundedUp wsX0_isRoundedUp ({ frames := 0, cells := 0, slots := 0, locals := 0 }) (P0 [.long x0, .long x2, .long x4]) (k2_QcV (.int (fX0_isRoundedUp x0 x2 x4))) 0 0 (fun _ => False) := by
  refine Met.ofW (cc := cX0_isRoundedUp) (maxL := 6) (ret := (some .boolean)) (by decide) rfl ?_
  intro p e s m args below meth c s₁ B hml hv
  have hv2 : args = _ := hv
  subst hv2
  have hx := B.exec
  have hb := B.bytes
  have hr := B.returns
  have hts := atoms_spec (ws := wsX0_isRoundedUp) B.pre
  have hown : s.vm.findClass RX0 = some m.cls := findClass_of_methodNamed B.named
  have hlocks := B.notSynchronized
  have hl := lv_entry ([.long x0, .long x2, .long x4]) (n := 6) (Nat.le_of_ble_eq_true rfl)
  rw [lg_entry_eq]
  generalize (lg_sl ([.long x0, .long x2, .long x4]) ++ List.replicate (6 - (lg_sl ([.long x0, .long x2, .long x4])).length) Slot.unset).toArray = ls at hl ⊢
  have hl : lv_has ls 6 [(0, .long x0), (2, .long x2), (4, .long x4)] := hl
  refine lv_lload_n hx hb dX0_isRoundedUp_0 rfl (lv_at hl 0 rfl) ?_
  refine lv_lload_n hx hb dX0_isRoundedUp_1 rfl (lv_at hl 1 rfl) ?_
  refine pl_gt (tgt := 21) hx hb dX0_isRoundedUp_2 dX0_isRoundedUp_3 (by decide) (fun c_1 => ?_) (fun c_1 => ?_)
  · refine lv_iconst (v := 1) hx hb dX0_isRoundedUp_21 (by decide) ?_
    refine lv_goto (tgt := 26) hx hb dX0_isRoundedUp_22 (by decide) ?_
    exact W.zret hx hb hr (by decide) (fun t ht _ => ⟨congrArg (fun z => Outcome.returned (some (Value.int z))) (by unfold fX0_isRoundedUp; rw [if_pos c_1]), ht⟩) (fun _ h => nomatch h) dX0_isRoundedUp_26
  · refine lv_lload_n hx hb dX0_isRoundedUp_6 rfl (lv_at hl 0 rfl) ?_
    refine lv_lload_n hx hb dX0_isRoundedUp_7 rfl (lv_at hl 1 rfl) ?_
    refine pl_ne (tgt := 25) hx hb dX0_isRoundedUp_8 dX0_isRoundedUp_9 (by decide) (fun c_2 => ?_) (fun c_2 => ?_)
    · refine lv_iconst (v := 0) hx hb dX0_isRoundedUp_25 (by decide) ?_
      exact W.zret hx hb hr (by decide) (fun t ht _ => ⟨congrArg (fun z => Outcome.returned (some (Value.int z))) (by unfold fX0_isRoundedUp; rw [if_neg c_1, if_neg c_2]), ht⟩) (fun _ h => nomatch h) dX0_isRoundedUp_26
    · refine lv_lload hx hb dX0_isRoundedUp_12 (lv_at hl 2 rfl) ?_
      refine lv_lconst (v := 1) hx hb dX0_isRoundedUp_14 (by decide) ?_
      refine lv_land hx hb dX0_isRoundedUp_15 ?_
      refine lv_lconst (v := 1) hx hb dX0_isRoundedUp_16 (by decide) ?_
      refine pl_ne (tgt := 25) hx hb dX0_isRoundedUp_17 dX0_isRoundedUp_18 (by decide) (fun c_3 => ?_) (fun c_3 => ?_)
      · refine lv_iconst (v := 0) hx hb dX0_isRoundedUp_25 (by decide) ?_
        exact W.zret hx hb hr (by decide) (fun t ht _ => ⟨congrArg (fun z => Outcome.returned (some (Value.int z))) (by unfold fX0_isRoundedUp; rw [if_neg c_1, if_pos c_2, if_neg c_3]), ht⟩) (fun _ h => nomatch h) dX0_isRoundedUp_26
      · refine lv_iconst (v := 1) hx hb dX0_isRoundedUp_21 (by decide) ?_
        refine lv_goto (tgt := 26) hx hb dX0_isRoundedUp_22 (by decide) ?_
        exact W.zret hx hb hr (by decide) (fun t ht _ => ⟨congrArg (fun z => Outcome.returned (some (Value.int z))) (by unfold fX0_isRoundedUp; rw [if_neg c_1, if_pos c_2, if_pos c_3]), ht⟩) (fun _ h => nomatch h) dX0_isRoundedUp_26
def fX0_growsBy (x0 : Int32) (x1 : Int64) : Int32 :=
  if x0 = (1 : Int32) then
    if x1 < (0 : Int64) then
      (0 : Int32)
    else
      (1 : Int32)
  else
    if (0 : Int64) ≤ x1 then
      (0 : Int32)
    else
      (1 : Int32)
theorem hd_X0_growsBy : yX0_growsBy.cls ≠ "java/lang/invoke/MethodHandle" ∧ yX0_growsBy.cls ≠ "java/lang/invoke/VarHandle" ∧ (parseMethodDescriptor yX0_growsBy.desc).map (fun d => d.parameters.length) = some 2 := by decide +kernel
set_option maxHeartbeats 4000000 in
set_option maxRecDepth 100000 in
theorem c_X0_growsBy (l : Launch) (x0 : Int32) (x1 : Int64) : Met l yX0_growsBy wsX0_growsBy ({ frames := 0, cells := 0, slots := 0, locals := 0 }) (P0 [.int x0, .long x1]) (k2_QcV (.int (fX0_growsBy x0 x1))) 0 0 (fun _ => False) := by
  refine Met.ofW (cc := cX0_growsBy) (maxL := 3) (ret := (some .boolean)) (by decide) rfl ?_
  intro p e s m args below meth c s₁ B hml hv
  have hv2 : args = _ := hv
  subst hv2
  have hx := B.exec
  have hb := B.bytes
  have hr := B.returns
  have hts := atoms_spec (ws := wsX0_growsBy) B.pre
  have hown : s.vm.findClass RX0 = some m.cls := findClass_of_methodNamed B.named
  have hlocks := B.notSynchronized
  have hl := lv_entry ([.int x0, .long x1]) (n := 3) (Nat.le_of_ble_eq_true rfl)
  rw [lg_entry_eq]
  generalize (lg_sl ([.int x0, .long x1]) ++ List.replicate (3 - (lg_sl ([.int x0, .long x1])).length) Slot.unset).toArray = ls at hl ⊢
  have hl : lv_has ls 3 [(0, .int x0), (1, .long x1)] := hl
  refine lv_iload_n hx hb dX0_growsBy_0 rfl (lv_at hl 0 rfl) ?_
  refine lv_iconst (v := 1) hx hb dX0_growsBy_1 (by decide) ?_
  refine lv_icmp_ne (tgt := 19) hx hb dX0_growsBy_2 (by decide) (fun c_1 => ?_) (fun c_1 => ?_)
  · refine lv_lload_n hx hb dX0_growsBy_19 rfl (lv_at hl 1 rfl) ?_
    refine lv_lconst (v := 0) hx hb dX0_growsBy_20 (by decide) ?_
    refine pl_ge (tgt := 29) hx hb dX0_growsBy_21 dX0_growsBy_22 (by decide) (fun c_2 => ?_) (fun c_2 => ?_)
    · refine lv_iconst (v := 0) hx hb dX0_growsBy_29 (by decide) ?_
      exact W.zret hx hb hr (by decide) (fun t ht _ => ⟨congrArg (fun z => Outcome.returned (some (Value.int z))) (by unfold fX0_growsBy; rw [if_neg c_1, if_pos c_2]), ht⟩) (fun _ h => nomatch h) dX0_growsBy_30
    · refine lv_iconst (v := 1) hx hb dX0_growsBy_25 (by decide) ?_
      refine lv_goto (tgt := 30) hx hb dX0_growsBy_26 (by decide) ?_
      exact W.zret hx hb hr (by decide) (fun t ht _ => ⟨congrArg (fun z => Outcome.returned (some (Value.int z))) (by unfold fX0_growsBy; rw [if_neg c_1, if_neg c_2]), ht⟩) (fun _ h => nomatch h) dX0_growsBy_30
  · refine lv_lload_n hx hb dX0_growsBy_5 rfl (lv_at hl 1 rfl) ?_
    refine lv_lconst (v := 0) hx hb dX0_growsBy_6 (by decide) ?_
    refine pl_lt (tgt := 15) hx hb dX0_growsBy_7 dX0_growsBy_8 (by decide) (fun c_3 => ?_) (fun c_3 => ?_)
    · refine lv_iconst (v := 0) hx hb dX0_growsBy_15 (by decide) ?_
      refine lv_goto (tgt := 30) hx hb dX0_growsBy_16 (by decide) ?_
      exact W.zret hx hb hr (by decide) (fun t ht _ => ⟨congrArg (fun z => Outcome.returned (some (Value.int z))) (by unfold fX0_growsBy; rw [if_pos c_1, if_pos c_3]), ht⟩) (fun _ h => nomatch h) dX0_growsBy_30
    · refine lv_iconst (v := 1) hx hb dX0_growsBy_11 (by decide) ?_
      refine lv_goto (tgt := 30) hx hb dX0_growsBy_12 (by decide) ?_
      exact W.zret hx hb hr (by decide) (fun t ht _ => ⟨congrArg (fun z => Outcome.returned (some (Value.int z))) (by unfold fX0_growsBy; rw [if_pos c_1, if_neg c_3]), ht⟩) (fun _ h => nomatch h) dX0_growsBy_30
end
section
def fX0_roundedOff (x0 : Int64) : Int64 :=
  if (fX0_isRoundedUp (x0 &&& (7 : Int64)) (4 : Int64) (x0 >>> ((3 : Int32).toInt64 &&& 63))) = 0 then
    x0 >>> ((3 : Int32).toInt64 &&& 63)
  else
    (x0 >>> ((3 : Int32).toInt64 &&& 63)) + (1 : Int64)
theorem hd_X0_roundedOff : yX0_roundedOff.cls ≠ "java/lang/invoke/MethodHandle" ∧ yX0_roundedOff.cls ≠ "java/lang/invoke/VarHandle" ∧ (parseMethodDescriptor yX0_roundedOff.desc).map (fun d => d.parameters.length) = some 1 := by decide +kernel
set_option maxHeartbeats 4000000 in
set_option maxRecDepth 100000 in
theorem c_X0_roundedOff (l : Launch) (x0 : Int64) : Met l yX0_roundedOff wsX0_roundedOff ({ frames := 1, cells := 0, slots := 0, locals := 25 }) (P0 [.long x0]) (k2_QcV (.long (fX0_roundedOff x0))) 0 0 (fun _ => False) := by
  refine Met.ofW (cc := cX0_roundedOff) (maxL := 4) (ret := (some .long)) (by decide) rfl ?_
  intro p e s m args below meth c s₁ B hml hv
  have hv2 : args = _ := hv
  subst hv2
  have hx := B.exec
  have hb := B.bytes
  have hr := B.returns
  have hts := atoms_spec (ws := wsX0_roundedOff) B.pre
  have hown : s.vm.findClass RX0 = some m.cls := findClass_of_methodNamed B.named
  have hlocks := B.notSynchronized
  have hl := lv_entry ([.long x0]) (n := 4) (Nat.le_of_ble_eq_true rfl)
  rw [lg_entry_eq]
  generalize (lg_sl ([.long x0]) ++ List.replicate (4 - (lg_sl ([.long x0])).length) Slot.unset).toArray = ls at hl ⊢
  have hl : lv_has ls 4 [(0, .long x0)] := hl
  refine lv_lload_n hx hb dX0_roundedOff_0 rfl (lv_at hl 0 rfl) ?_
  refine lv_iconst (v := 3) hx hb dX0_roundedOff_1 (by decide) ?_
  refine lv_lshr hx hb dX0_roundedOff_2 rfl ?_
  refine lv_lstore_n (lv' := [(2, .long (x0 >>> ((3 : Int32).toInt64 &&& 63))), (0, .long x0)]) hx hb dX0_roundedOff_3 rfl hl (by decide) rfl (fun ls hl => ?_)
  refine lv_lload_n hx hb dX0_roundedOff_4 rfl (lv_at hl 1 rfl) ?_
  refine lv_ldc2 (v := (7)) hx hb hown (hts (.constantLong RX0 104 (7)) (by decide +kernel)) dX0_roundedOff_5 ?_
  refine lv_land hx hb dX0_roundedOff_8 ?_
  refine lv_ldc2 (v := (4)) hx hb hown (hts (.constantLong RX0 106 (4)) (by decide +kernel)) dX0_roundedOff_9 ?_
  refine lv_lload_n hx hb dX0_roundedOff_12 rfl (lv_at hl 0 rfl) ?_
  refine pc_0 (As := [.long (x0 &&& (7 : Int64)), .long (4 : Int64), .long (x0 >>> ((3 : Int32).toInt64 &&& 63))]) (rest := []) (r := .int (fX0_isRoundedUp (x0 &&& (7 : Int64)) (4 : Int64) (x0 >>> ((3 : Int32).toInt64 &&& 63)))) ⟨hx, hb, hml, hown, hts⟩ (c_X0_isRoundedUp l (x0 &&& (7 : Int64)) (4 : Int64) (x0 >>> ((3 : Int32).toInt64 &&& 63))) (va_cwS 3 hts gX0_roundedOff_X0_isRoundedUp rfl rfl rfl hd_X0_isRoundedUp ⟨Nat.le_of_ble_eq_true rfl, Nat.le_of_ble_eq_true rfl⟩) rfl hl.1 rfl (lv_room (Nat.le_of_ble_eq_true rfl)) dX0_roundedOff_13 ⟨Nat.zero_le _, Nat.zero_le _⟩ ?_
  refine lv_if_eq (tgt := 25) hx hb dX0_roundedOff_16 (by decide) (fun c_1 => ?_) (fun c_1 => ?_)
  · refine lv_lload_n hx hb dX0_roundedOff_25 rfl (lv_at hl 0 rfl) ?_
    exact W.lret hx hb hr (fun t ht _ => ⟨congrArg (fun z => Outcome.returned (some (Value.long z))) (by unfold fX0_roundedOff; rw [if_pos c_1]), ht⟩) (fun _ h => nomatch h) dX0_roundedOff_26
  · refine lv_lload_n hx hb dX0_roundedOff_19 rfl (lv_at hl 0 rfl) ?_
    refine lv_lconst (v := 1) hx hb dX0_roundedOff_20 (by decide) ?_
    refine lv_ladd hx hb dX0_roundedOff_21 ?_
    refine lv_goto (tgt := 26) hx hb dX0_roundedOff_22 (by decide) ?_
    exact W.lret hx hb hr (fun t ht _ => ⟨congrArg (fun z => Outcome.returned (some (Value.long z))) (by unfold fX0_roundedOff; rw [if_neg c_1]), ht⟩) (fun _ h => nomatch h) dX0_roundedOff_26
/-- the loop of sizeFrom: at most n turns -/
def sfLoop : Nat → Int64 → Int64 → Int32 → Int64 × Int32
  | 0, _, sig, pl => (sig, pl)
  | n + 1, top, sig, pl => if top ≤ sig then (sig, pl) else if pl ≤ 1 then (sig, pl) else sfLoop n top (sig <<< ((1 : Int32).toInt64 &&& 63)) (pl + (-1))
section SF
variable {p : Program} {l : Launch} {e : Env} {R : Room} {s : State} {m : MethodId} {args : Array Value} {below : List Frame} {meth : Method} {c : Code} {H : Heap} {locs : List Loc} {cells slots : Nat} {Q : State → Prop} {rest : List Value}
set_option maxHeartbeats 4000000 in
set_option maxRecDepth 100000 in
theorem sf_loop (hx : p.tables.exec = Jvm.exec) (hb : c.code = cX0_sizeFrom) {r0 : Nat} {top : Int64} : ∀ (n k : Nat) {i9 : Int32} {sig : Int64} {pl : Int32} {ls : Array Slot}, k + n = 64 → i9 = nI k →
    lv_has ls 10 [(9, .int i9), (8, .int pl), (6, .long sig), (4, .long top), (0, .ref r0)] →
    (∀ ls : Array Slot, lv_has ls 10 [(8, .int (sfLoop n top sig pl).2), (6, .long (sfLoop n top sig pl).1), (0, .ref r0)] → W p l e R s m args below meth c H locs cells slots Q (F0 m 74 ls rest)) →
    W p l e R s m args below meth c H locs cells slots Q (F0 m 38 ls rest) := by
  intro n
  induction n with
  | zero =>
    intro k i9 sig pl ls hk h9 hl kk
    have hk : k = 64 := by omega
    subst hk
    refine lv_iload hx hb dX0_sizeFrom_38 (lv_at hl 0 rfl) ?_
    refine lv_bipush (v := (64)) hx hb dX0_sizeFrom_40 (by decide) ?_
    refine lv_icmp_ge (tgt := 74) hx hb dX0_sizeFrom_42 (by decide) (fun c_1 => ?_) (fun c_1 => ?_)
    · exact kk ls (lv_sub hl [1, 2, 4] rfl)
    · exact absurd (by rw [h9]; decide) c_1
  | succ n ih =>
    intro k i9 sig pl ls hk h9 hl kk
    refine lv_iload hx hb dX0_sizeFrom_38 (lv_at hl 0 rfl) ?_
    refine lv_bipush (v := (64)) hx hb dX0_sizeFrom_40 (by decide) ?_
    refine lv_icmp_ge (tgt := 74) hx hb dX0_sizeFrom_42 (by decide) (fun c_1 => ?_) (fun c_1 => ?_)
    · exact absurd c_1 (by rw [h9]; exact nI_ge (a := k) (b := 64) (by omega) (by decide))
    · refine lv_lload hx hb dX0_sizeFrom_45 (lv_at hl 2 rfl) ?_
      refine lv_lload hx hb dX0_sizeFrom_47 (lv_at hl 3 rfl) ?_
      refine pl_ge (tgt := 74) hx hb dX0_sizeFrom_49 dX0_sizeFrom_50 (by decide) (fun c_2 => ?_) (fun c_2 => ?_)
      · exact kk ls (by rw [sfLoop, if_pos c_2]; exact lv_sub hl [1, 2, 4] rfl)
      · refine lv_iload hx hb dX0_sizeFrom_53 (lv_at hl 1 rfl) ?_
        refine lv_iconst (v := 1) hx hb dX0_sizeFrom_55 (by decide) ?_
        refine lv_icmp_le (tgt := 74) hx hb dX0_sizeFrom_56 (by decide) (fun c_3 => ?_) (fun c_3 => ?_)
        · exact kk ls (by rw [sfLoop, if_neg c_2, if_pos c_3]; exact lv_sub hl [1, 2, 4] rfl)
        · refine lv_lload hx hb dX0_sizeFrom_59 (lv_at hl 2 rfl) ?_
          refine lv_iconst (v := 1) hx hb dX0_sizeFrom_61 (by decide) ?_
          refine lv_lshl hx hb dX0_sizeFrom_62 rfl ?_
          refine lv_lstore (lv' := [(6, .long (sig <<< ((1 : Int32).toInt64 &&& 63))), (9, .int i9), (8, .int pl), (4, .long top), (0, .ref r0)]) hx hb dX0_sizeFrom_63 hl (by decide) rfl (fun ls hl => ?_)
          refine lv_iinc (v := pl + (-1)) (lv' := [(8, .int (pl + (-1))), (6, .long (sig <<< ((1 : Int32).toInt64 &&& 63))), (9, .int i9), (4, .long top), (0, .ref r0)]) hx hb dX0_sizeFrom_65 hl (k := 2) rfl rfl (by decide) rfl (fun ls hl => ?_)
          refine lv_iinc (v := i9 + 1) (lv' := [(9, .int (i9 + 1)), (8, .int (pl + (-1))), (6, .long (sig <<< ((1 : Int32).toInt64 &&& 63))), (4, .long top), (0, .ref r0)]) hx hb dX0_sizeFrom_68 hl (k := 2) rfl rfl (by decide) rfl (fun ls hl => ?_)
          refine lv_goto (tgt := 38) hx hb dX0_sizeFrom_71 (by decide) ?_
          refine ih (k + 1) (by omega) (by rw [h9]; exact nI_1 k) hl (fun ls hl => kk ls ?_)
          rw [sfLoop, if_neg c_2, if_neg c_3]
          exact hl
end SF
def fX0_sizeFrom (i : Nat) (x1 : Int64) (x3 : Int32) : Int64 :=
  let v6_1 : Int64 := (kHid i) <<< ((3 : Int32).toInt64 &&& 63)
  if x1 < (v6_1 <<< ((1 : Int32).toInt64 &&& 63)) then
    if ((sfLoop 64 v6_1 x1 x3).2) ≤ ((2 : Int32) * (kBias i)) then
      (((((sfLoop 64 v6_1 x1 x3).2).toInt64) - (1 : Int64)) <<< ((kFrac i).toInt64 &&& 63)) + (fX0_roundedOff ((sfLoop 64 v6_1 x1 x3).1))
    else
      kInf i
  else
    if ((sfLoop 64 v6_1 (fX0_shiftedDown x1 (1 : Int32)) (x3 + (1))).2) ≤ ((2 : Int32) * (kBias i)) then
      (((((sfLoop 64 v6_1 (fX0_shiftedDown x1 (1 : Int32)) (x3 + (1))).2).toInt64) - (1 : Int64)) <<< ((kFrac i).toInt64 &&& 63)) + (fX0_roundedOff ((sfLoop 64 v6_1 (fX0_shiftedDown x1 (1 : Int32)) (x3 + (1))).1))
    else
      kInf i
theorem hd_X0_sizeFrom : yX0_sizeFrom.cls = RX0 ∧ yX0_sizeFrom.cls ≠ "java/lang/invoke/MethodHandle" ∧ yX0_sizeFrom.cls ≠ "java/lang/invoke/VarHandle" ∧ (parseMethodDescriptor yX0_sizeFrom.desc).map (fun d => d.parameters.length) = some 2 := by decide +kernel
set_option maxHeartbeats 4000000 in
set_option maxRecDepth 100000 in
theorem c_X0_sizeFrom (l : Launch) (ad : Nat → Nat) (i : Nat) (hi : i < 2) (x1 : Int64) (x3 : Int32) : Met l yX0_sizeFrom wsX0_sizeFrom ({ frames := 2, cells := 0, slots := 0, locals := 48 }) (PK ad [.ref (ad i), .long x1, .int x3]) (k2_QcV (.long (fX0_sizeFrom i x1 x3))) 0 0 (fun _ => False) := by
  refine Met.ofW (cc := cX0_sizeFrom) (maxL := 10) (ret := (some .long)) (by decide) rfl ?_
  intro p e s m args below meth c s₁ B hml hv
  obtain ⟨rfl, hKC⟩ := hv
  have hx := B.exec
  have hb := B.bytes
  have hr := B.returns
  have hts := atoms_spec (ws := wsX0_sizeFrom) B.pre
  have hown : s.vm.findClass RX0 = some m.cls := findClass_of_methodNamed B.named
  have hlocks := B.notSynchronized
  have hS : va_S (fun _ => False) s.heap s.heap [] := va_S.rf
  have hl := lv_entry ([.ref (ad i), .long x1, .int x3]) (n := 10) (Nat.le_of_ble_eq_true rfl)
  rw [lg_entry_eq]
  generalize (lg_sl ([.ref (ad i), .long x1, .int x3]) ++ List.replicate (10 - (lg_sl ([.ref (ad i), .long x1, .int x3])).length) Slot.unset).toArray = ls at hl ⊢
  have hl : lv_has ls 10 [(0, .ref (ad i)), (1, .long x1), (3, .int x3)] := hl
  refine lv_aload_n hx hb dX0_sizeFrom_0 rfl (lv_at hl 0 rfl) ?_
  refine pk_hid hx hb hKC hi hS hown (hts (.fieldLink RX0 40 "NeedleBoard$Kind" "hiddenBit" "J") (by decide +kernel)) dX0_sizeFrom_1 ?_
  refine lv_iconst (v := 3) hx hb dX0_sizeFrom_4 (by decide) ?_
  refine lv_lshl hx hb dX0_sizeFrom_5 rfl ?_
  refine lv_topl (fun v6_1 e_v6_1 => ?_)
  refine lv_lstore (lv' := [(4, .long v6_1), (0, .ref (ad i)), (1, .long x1), (3, .int x3)]) hx hb dX0_sizeFrom_6 hl (by decide) rfl (fun ls hl => ?_)
  refine lv_lload_n hx hb dX0_sizeFrom_8 rfl (lv_at hl 2 rfl) ?_
  refine lv_lstore (lv' := [(6, .long x1), (4, .long v6_1), (0, .ref (ad i)), (1, .long x1), (3, .int x3)]) hx hb dX0_sizeFrom_9 hl (by decide) rfl (fun ls hl => ?_)
  refine lv_iload_n hx hb dX0_sizeFrom_11 rfl (lv_at hl 4 rfl) ?_
  refine lv_istore (lv' := [(8, .int x3), (6, .long x1), (4, .long v6_1), (0, .ref (ad i)), (1, .long x1), (3, .int x3)]) hx hb dX0_sizeFrom_12 hl (by decide) rfl (fun ls hl => ?_)
  refine lv_lload hx hb dX0_sizeFrom_14 (lv_at hl 1 rfl) ?_
  refine lv_lload hx hb dX0_sizeFrom_16 (lv_at hl 2 rfl) ?_
  refine lv_iconst (v := 1) hx hb dX0_sizeFrom_18 (by decide) ?_
  refine lv_lshl hx hb dX0_sizeFrom_19 rfl ?_
  refine pl_lt (tgt := 35) hx hb dX0_sizeFrom_20 dX0_sizeFrom_21 (by decide) (fun c_2 => ?_) (fun c_2 => ?_)
  · refine lv_iconst (v := 0) hx hb dX0_sizeFrom_35 (by decide) ?_
    refine lv_istore (lv' := [(9, .int (0 : Int32)), (8, .int x3), (6, .long x1), (4, .long v6_1), (0, .ref (ad i)), (1, .long x1), (3, .int x3)]) hx hb dX0_sizeFrom_36 hl (by decide) rfl (fun ls hl => ?_)
    refine sf_loop hx hb 64 0 rfl rfl (lv_sub hl [0, 1, 2, 3, 4] rfl) (fun ls hl => ?_)
    refine lv_iload hx hb dX0_sizeFrom_74 (lv_at hl 0 rfl) ?_
    refine lv_iconst (v := 2) hx hb dX0_sizeFrom_76 (by decide) ?_
    refine lv_aload_n hx hb dX0_sizeFrom_77 rfl (lv_at hl 2 rfl) ?_
    refine pk_bias hx hb hKC hi hS hown (hts (.fieldLink RX0 33 "NeedleBoard$Kind" "bias" "I") (by decide +kernel)) dX0_sizeFrom_78 ?_
    refine lv_imul hx hb dX0_sizeFrom_81 ?_
    refine lv_icmp_le (tgt := 90) hx hb dX0_sizeFrom_82 (by decide) (fun c_3 => ?_) (fun c_3 => ?_)
    · refine lv_iload hx hb dX0_sizeFrom_90 (lv_at hl 0 rfl) ?_
      refine lv_i2l hx hb dX0_sizeFrom_92 rfl ?_
      refine lv_lconst (v := 1) hx hb dX0_sizeFrom_93 (by decide) ?_
      refine lv_lsub hx hb dX0_sizeFrom_94 ?_
      refine lv_aload_n hx hb dX0_sizeFrom_95 rfl (lv_at hl 2 rfl) ?_
      refine pk_frac hx hb hKC hi hS hown (hts (.fieldLink RX0 29 "NeedleBoard$Kind" "fractionBits" "I") (by decide +kernel)) dX0_sizeFrom_96 ?_
      refine lv_lshl hx hb dX0_sizeFrom_99 rfl ?_
      refine lv_lload hx hb dX0_sizeFrom_100 (lv_at hl 1 rfl) ?_
      refine pc_0 (As := [.long ((sfLoop 64 v6_1 x1 x3).1)]) (rest := [.long (((((sfLoop 64 v6_1 x1 x3).2).toInt64) - (1 : Int64)) <<< ((kFrac i).toInt64 &&& 63))]) (r := .long (fX0_roundedOff ((sfLoop 64 v6_1 x1 x3).1))) ⟨hx, hb, hml, hown, hts⟩ (c_X0_roundedOff l ((sfLoop 64 v6_1 x1 x3).1)) (va_cwS 1 hts gX0_sizeFrom_X0_roundedOff rfl rfl rfl hd_X0_roundedOff ⟨Nat.le_of_ble_eq_true rfl, Nat.le_of_ble_eq_true rfl⟩) rfl hl.1 rfl (lv_room (Nat.le_of_ble_eq_true rfl)) dX0_sizeFrom_102 ⟨Nat.zero_le _, Nat.zero_le _⟩ ?_
      refine lv_ladd hx hb dX0_sizeFrom_105 ?_
      exact W.lret hx hb hr (fun t ht _ => ⟨congrArg (fun z => Outcome.returned (some (Value.long z))) (by subst e_v6_1; unfold fX0_sizeFrom; dsimp only; rw [if_pos c_2, if_pos c_3]), ht⟩) (fun _ h => nomatch h) dX0_sizeFrom_106
    · refine lv_aload_n hx hb dX0_sizeFrom_85 rfl (lv_at hl 2 rfl) ?_
      refine pk_inf hx hb hKC hi hS hown (hts (.fieldLink RX0 48 "NeedleBoard$Kind" "infinity" "J") (by decide +kernel)) dX0_sizeFrom_86 ?_
      exact W.lret hx hb hr (fun t ht _ => ⟨congrArg (fun z => Outcome.returned (some (Value.long z))) (by subst e_v6_1; unfold fX0_sizeFrom; dsimp only; rw [if_pos c_2, if_neg c_3]), ht⟩) (fun _ h => nomatch h) dX0_sizeFrom_89
  · refine lv_lload hx hb dX0_sizeFrom_24 (lv_at hl 1 rfl) ?_
    refine lv_iconst (v := 1) hx hb dX0_sizeFrom_26 (by decide) ?_
    refine pc_0 (As := [.long x1, .int (1 : Int32)]) (rest := []) (r := .long (fX0_shiftedDown x1 (1 : Int32))) ⟨hx, hb, hml, hown, hts⟩ (c_X0_shiftedDown l x1 (1 : Int32)) (va_cwS 2 hts gX0_sizeFrom_X0_shiftedDown rfl rfl rfl hd_X0_shiftedDown ⟨Nat.le_of_ble_eq_true rfl, Nat.le_of_ble_eq_true rfl⟩) rfl hl.1 rfl (lv_room (Nat.le_of_ble_eq_true rfl)) dX0_sizeFrom_27 ⟨Nat.zero_le _, Nat.zero_le _⟩ ?_
    refine lv_lstore (lv' := [(6, .long (fX0_shiftedDown x1 (1 : Int32))), (8, .int x3), (4, .long v6_1), (0, .ref (ad i)), (1, .long x1), (3, .int x3)]) hx hb dX0_sizeFrom_30 hl (by decide) rfl (fun ls hl => ?_)
    refine lv_iinc (v := x3 + (1)) (lv' := [(8, .int (x3 + (1))), (6, .long (fX0_shiftedDown x1 (1 : Int32))), (4, .long v6_1), (0, .ref (ad i)), (1, .long x1), (3, .int x3)]) hx hb dX0_sizeFrom_32 hl (k := 1) rfl rfl (by decide) rfl (fun ls hl => ?_)
    refine lv_iconst (v := 0) hx hb dX0_sizeFrom_35 (by decide) ?_
    refine lv_istore (lv' := [(9, .int (0 : Int32)), (8, .int (x3 + (1))), (6, .long (fX0_shiftedDown x1 (1 : Int32))), (4, .long v6_1), (0, .ref (ad i)), (1, .long x1), (3, .int x3)]) hx hb dX0_sizeFrom_36 hl (by decide) rfl (fun ls hl => ?_)
    refine sf_loop hx hb 64 0 rfl rfl (lv_sub hl [0, 1, 2, 3, 4] rfl) (fun ls hl => ?_)
    refine lv_iload hx hb dX0_sizeFrom_74 (lv_at hl 0 rfl) ?_
    refine lv_iconst (v := 2) hx hb dX0_sizeFrom_76 (by decide) ?_
    refine lv_aload_n hx hb dX0_sizeFrom_77 rfl (lv_at hl 2 rfl) ?_
    refine pk_bias hx hb hKC hi hS hown (hts (.fieldLink RX0 33 "NeedleBoard$Kind" "bias" "I") (by decide +kernel)) dX0_sizeFrom_78 ?_
    refine lv_imul hx hb dX0_sizeFrom_81 ?_
    refine lv_icmp_le (tgt := 90) hx hb dX0_sizeFrom_82 (by decide) (fun c_4 => ?_) (fun c_4 => ?_)
    · refine lv_iload hx hb dX0_sizeFrom_90 (lv_at hl 0 rfl) ?_
      refine lv_i2l hx hb dX0_sizeFrom_92 rfl ?_
      refine lv_lconst (v := 1) hx hb dX0_sizeFrom_93 (by decide) ?_
      refine lv_lsub hx hb dX0_sizeFrom_94 ?_
      refine lv_aload_n hx hb dX0_sizeFrom_95 rfl (lv_at hl 2 rfl) ?_
      refine pk_frac hx hb hKC hi hS hown (hts (.fieldLink RX0 29 "NeedleBoard$Kind" "fractionBits" "I") (by decide +kernel)) dX0_sizeFrom_96 ?_
      refine lv_lshl hx hb dX0_sizeFrom_99 rfl ?_
      refine lv_lload hx hb dX0_sizeFrom_100 (lv_at hl 1 rfl) ?_
      refine pc_0 (As := [.long ((sfLoop 64 v6_1 (fX0_shiftedDown x1 (1 : Int32)) (x3 + (1))).1)]) (rest := [.long (((((sfLoop 64 v6_1 (fX0_shiftedDown x1 (1 : Int32)) (x3 + (1))).2).toInt64) - (1 : Int64)) <<< ((kFrac i).toInt64 &&& 63))]) (r := .long (fX0_roundedOff ((sfLoop 64 v6_1 (fX0_shiftedDown x1 (1 : Int32)) (x3 + (1))).1))) ⟨hx, hb, hml, hown, hts⟩ (c_X0_roundedOff l ((sfLoop 64 v6_1 (fX0_shiftedDown x1 (1 : Int32)) (x3 + (1))).1)) (va_cwS 1 hts gX0_sizeFrom_X0_roundedOff rfl rfl rfl hd_X0_roundedOff ⟨Nat.le_of_ble_eq_true rfl, Nat.le_of_ble_eq_true rfl⟩) rfl hl.1 rfl (lv_room (Nat.le_of_ble_eq_true rfl)) dX0_sizeFrom_102 ⟨Nat.zero_le _, Nat.zero_le _⟩ ?_
      refine lv_ladd hx hb dX0_sizeFrom_105 ?_
      exact W.lret hx hb hr (fun t ht _ => ⟨congrArg (fun z => Outcome.returned (some (Value.long z))) (by subst e_v6_1; unfold fX0_sizeFrom; dsimp only; rw [if_neg c_2, if_pos c_4]), ht⟩) (fun _ h => nomatch h) dX0_sizeFrom_106
    · refine lv_aload_n hx hb dX0_sizeFrom_85 rfl (lv_at hl 2 rfl) ?_
      refine pk_inf hx hb hKC hi hS hown (hts (.fieldLink RX0 48 "NeedleBoard$Kind" "infinity" "J") (by decide +kernel)) dX0_sizeFrom_86 ?_
      exact W.lret hx hb hr (fun t ht _ => ⟨congrArg (fun z => Outcome.returned (some (Value.long z))) (by subst e_v6_1; unfold fX0_sizeFrom; dsimp only; rw [if_neg c_2, if_neg c_4]), ht⟩) (fun _ h => nomatch h) dX0_sizeFrom_89
def fX0_wholeOfPart (i : Nat) (x1 : Int64) (x3 : Int32) : Int64 :=
  if x3 = (2 : Int32) then
    if (fX0_sizeOf i x1) ≤ ((kOne i) - (kHid i)) then
      (0 : Int64)
    else
      kOne i
  else
    if (fX0_growsBy x3 x1) = 0 then
      (0 : Int64)
    else
      kOne i
theorem hd_X0_wholeOfPart : yX0_wholeOfPart.cls = RX0 ∧ yX0_wholeOfPart.cls ≠ "java/lang/invoke/MethodHandle" ∧ yX0_wholeOfPart.cls ≠ "java/lang/invoke/VarHandle" ∧ (parseMethodDescriptor yX0_wholeOfPart.desc).map (fun d => d.parameters.length) = some 2 := by decide +kernel
set_option maxHeartbeats 4000000 in
set_option maxRecDepth 100000 in
theorem c_X0_wholeOfPart (l : Launch) (ad : Nat → Nat) (i : Nat) (hi : i < 2) (x1 : Int64) (x3 : Int32) : Met l yX0_wholeOfPart wsX0_wholeOfPart ({ frames := 1, cells := 0, slots := 0, locals := 22 }) (PK ad [.ref (ad i), .long x1, .int x3]) (k2_QcV (.long (fX0_wholeOfPart i x1 x3))) 0 0 (fun _ => False) := by
  refine Met.ofW (cc := cX0_wholeOfPart) (maxL := 7) (ret := (some .long)) (by decide) rfl ?_
  intro p e s m args below meth c s₁ B hml hv
  obtain ⟨rfl, hKC⟩ := hv
  have hx := B.exec
  have hb := B.bytes
  have hr := B.returns
  have hts := atoms_spec (ws := wsX0_wholeOfPart) B.pre
  have hown : s.vm.findClass RX0 = some m.cls := findClass_of_methodNamed B.named
  have hlocks := B.notSynchronized
  have hS : va_S (fun _ => False) s.heap s.heap [] := va_S.rf
  have hl := lv_entry ([.ref (ad i), .long x1, .int x3]) (n := 7) (Nat.le_of_ble_eq_true rfl)
  rw [lg_entry_eq]
  generalize (lg_sl ([.ref (ad i), .long x1, .int x3]) ++ List.replicate (7 - (lg_sl ([.ref (ad i), .long x1, .int x3])).length) Slot.unset).toArray = ls at hl ⊢
  have hl : lv_has ls 7 [(0, .ref (ad i)), (1, .long x1), (3, .int x3)] := hl
  refine lv_aload_n hx hb dX0_wholeOfPart_0 rfl (lv_at hl 0 rfl) ?_
  refine pk_one hx hb hKC hi hS hown (hts (.fieldLink RX0 43 "NeedleBoard$Kind" "one" "J") (by decide +kernel)) dX0_wholeOfPart_1 ?_
  refine lv_aload_n hx hb dX0_wholeOfPart_4 rfl (lv_at hl 0 rfl) ?_
  refine pk_hid hx hb hKC hi hS hown (hts (.fieldLink RX0 40 "NeedleBoard$Kind" "hiddenBit" "J") (by decide +kernel)) dX0_wholeOfPart_5 ?_
  refine lv_lsub hx hb dX0_wholeOfPart_8 ?_
  refine lv_lstore (lv' := [(4, .long ((kOne i) - (kHid i))), (0, .ref (ad i)), (1, .long x1), (3, .int x3)]) hx hb dX0_wholeOfPart_9 hl (by decide) rfl (fun ls hl => ?_)
  refine lv_iload_n hx hb dX0_wholeOfPart_11 rfl (lv_at hl 3 rfl) ?_
  refine lv_iconst (v := 2) hx hb dX0_wholeOfPart_12 (by decide) ?_
  refine lv_icmp_ne (tgt := 35) hx hb dX0_wholeOfPart_13 (by decide) (fun c_1 => ?_) (fun c_1 => ?_)
  · refine lv_iload_n hx hb dX0_wholeOfPart_35 rfl (lv_at hl 3 rfl) ?_
    refine lv_lload_n hx hb dX0_wholeOfPart_36 rfl (lv_at hl 2 rfl) ?_
    refine pc_0 (As := [.int x3, .long x1]) (rest := []) (r := .int (fX0_growsBy x3 x1)) ⟨hx, hb, hml, hown, hts⟩ (c_X0_growsBy l x3 x1) (va_cwS 2 hts gX0_wholeOfPart_X0_growsBy rfl rfl rfl hd_X0_growsBy ⟨Nat.le_of_ble_eq_true rfl, Nat.le_of_ble_eq_true rfl⟩) rfl hl.1 rfl (lv_room (Nat.le_of_ble_eq_true rfl)) dX0_wholeOfPart_37 ⟨Nat.zero_le _, Nat.zero_le _⟩ ?_
    refine lv_istore (lv' := [(6, .int (fX0_growsBy x3 x1)), (4, .long ((kOne i) - (kHid i))), (0, .ref (ad i)), (1, .long x1), (3, .int x3)]) hx hb dX0_wholeOfPart_40 hl (by decide) rfl (fun ls hl => ?_)
    refine lv_iload hx hb dX0_wholeOfPart_42 (lv_at hl 0 rfl) ?_
    refine lv_if_eq (tgt := 54) hx hb dX0_wholeOfPart_44 (by decide) (fun c_2 => ?_) (fun c_2 => ?_)
    · refine lv_lconst (v := 0) hx hb dX0_wholeOfPart_54 (by decide) ?_
      exact W.lret hx hb hr (fun t ht _ => ⟨congrArg (fun z => Outcome.returned (some (Value.long z))) (by unfold fX0_wholeOfPart; rw [if_neg c_1, if_pos c_2]), ht⟩) (fun _ h => nomatch h) dX0_wholeOfPart_55
    · refine lv_aload_n hx hb dX0_wholeOfPart_47 rfl (lv_at hl 2 rfl) ?_
      refine pk_one hx hb hKC hi hS hown (hts (.fieldLink RX0 43 "NeedleBoard$Kind" "one" "J") (by decide +kernel)) dX0_wholeOfPart_48 ?_
      refine lv_goto (tgt := 55) hx hb dX0_wholeOfPart_51 (by decide) ?_
      exact W.lret hx hb hr (fun t ht _ => ⟨congrArg (fun z => Outcome.returned (some (Value.long z))) (by unfold fX0_wholeOfPart; rw [if_neg c_1, if_neg c_2]), ht⟩) (fun _ h => nomatch h) dX0_wholeOfPart_55
  · refine lv_aload_n hx hb dX0_wholeOfPart_16 rfl (lv_at hl 1 rfl) ?_
    refine lv_lload_n hx hb dX0_wholeOfPart_17 rfl (lv_at hl 2 rfl) ?_
    refine pc_V (i := i) (As := [.long x1]) (rest := []) (r := .long (fX0_sizeOf i x1)) ⟨hx, hb, hml, hown, hts⟩ (c_X0_sizeOf l ad i hi x1) (cwV 1 hts gX0_wholeOfPart_X0_sizeOf rfl rfl rfl hd_X0_sizeOf ⟨Nat.le_of_ble_eq_true rfl, Nat.le_of_ble_eq_true rfl⟩) hKC hS hi rfl hl.1 rfl (lv_room (Nat.le_of_ble_eq_true rfl)) dX0_wholeOfPart_18 ⟨Nat.zero_le _, Nat.zero_le _⟩ ?_
    refine lv_lload hx hb dX0_wholeOfPart_21 (lv_at hl 0 rfl) ?_
    refine pl_le (tgt := 31) hx hb dX0_wholeOfPart_23 dX0_wholeOfPart_24 (by decide) (fun c_3 => ?_) (fun c_3 => ?_)
    · refine lv_iconst (v := 0) hx hb dX0_wholeOfPart_31 (by decide) ?_
      refine lv_goto (tgt := 40) hx hb dX0_wholeOfPart_32 (by decide) ?_
      refine lv_istore (lv' := [(6, .int (0 : Int32)), (4, .long ((kOne i) - (kHid i))), (0, .ref (ad i)), (1, .long x1), (3, .int x3)]) hx hb dX0_wholeOfPart_40 hl (by decide) rfl (fun ls hl => ?_)
      refine lv_iload hx hb dX0_wholeOfPart_42 (lv_at hl 0 rfl) ?_
      refine lv_if_eq (tgt := 54) hx hb dX0_wholeOfPart_44 (by decide) (fun _ => ?_) (fun h9 => absurd h9 (by decide))
      refine lv_lconst (v := 0) hx hb dX0_wholeOfPart_54 (by decide) ?_
      exact W.lret hx hb hr (fun t ht _ => ⟨congrArg (fun z => Outcome.returned (some (Value.long z))) (by unfold fX0_wholeOfPart; rw [if_pos c_1, if_pos c_3]), ht⟩) (fun _ h => nomatch h) dX0_wholeOfPart_55
    · refine lv_iconst (v := 1) hx hb dX0_wholeOfPart_27 (by decide) ?_
      refine lv_goto (tgt := 40) hx hb dX0_wholeOfPart_28 (by decide) ?_
      refine lv_istore (lv' := [(6, .int (1 : Int32)), (4, .long ((kOne i) - (kHid i))), (0, .ref (ad i)), (1, .long x1), (3, .int x3)]) hx hb dX0_wholeOfPart_40 hl (by decide) rfl (fun ls hl => ?_)
      refine lv_iload hx hb dX0_wholeOfPart_42 (lv_at hl 0 rfl) ?_
      refine lv_if_eq (tgt := 54) hx hb dX0_wholeOfPart_44 (by decide) (fun h9 => absurd h9 (by decide)) (fun _ => ?_)
      refine lv_aload_n hx hb dX0_wholeOfPart_47 rfl (lv_at hl 2 rfl) ?_
      refine pk_one hx hb hKC hi hS hown (hts (.fieldLink RX0 43 "NeedleBoard$Kind" "one" "J") (by decide +kernel)) dX0_wholeOfPart_48 ?_
      refine lv_goto (tgt := 55) hx hb dX0_wholeOfPart_51 (by decide) ?_
      exact W.lret hx hb hr (fun t ht _ => ⟨congrArg (fun z => Outcome.returned (some (Value.long z))) (by unfold fX0_wholeOfPart; rw [if_pos c_1, if_neg c_3]), ht⟩) (fun _ h => nomatch h) dX0_wholeOfPart_55
def fX0_wholeOfMixed (i : Nat) (x1 : Int64) (x3 : Int32) (x4 : Int32) : Int64 :=
  let v20_1 : Int64 := (fX0_sizeOf i x1) &&& (((1 : Int64) <<< (x4.toInt64 &&& 63)) - (1 : Int64))
  if v20_1 = (0 : Int64) then
    fX0_sizeOf i x1
  else
    if x3 = (2 : Int32) then
      let v70_5 : Int32 := fX0_isRoundedUp v20_1 (((1 : Int64) <<< (x4.toInt64 &&& 63)) >>> ((1 : Int32).toInt64 &&& 63)) ((fX0_significandOf i (fX0_sizeOf i x1)) >>> (x4.toInt64 &&& 63))
      if v70_5 = 0 then
        (fX0_sizeOf i x1) - v20_1
      else
        ((fX0_sizeOf i x1) - v20_1) + ((1 : Int64) <<< (x4.toInt64 &&& 63))
    else
      if (fX0_growsBy x3 x1) = 0 then
        (fX0_sizeOf i x1) - v20_1
      else
        ((fX0_sizeOf i x1) - v20_1) + ((1 : Int64) <<< (x4.toInt64 &&& 63))
theorem hd_X0_wholeOfMixed : yX0_wholeOfMixed.cls = RX0 ∧ yX0_wholeOfMixed.cls ≠ "java/lang/invoke/MethodHandle" ∧ yX0_wholeOfMixed.cls ≠ "java/lang/invoke/VarHandle" ∧ (parseMethodDescriptor yX0_wholeOfMixed.desc).map (fun d => d.parameters.length) = some 3 := by decide +kernel
set_option maxHeartbeats 4000000 in
set_option maxRecDepth 100000 in
theorem c_X0_wholeOfMixed (l : Launch) (ad : Nat → Nat) (i : Nat) (hi : i < 2) (x1 : Int64) (x3 : Int32) (x4 : Int32) : Met l yX0_wholeOfMixed wsX0_wholeOfMixed ({ frames := 1, cells := 0, slots := 0, locals := 25 }) (PK ad [.ref (ad i), .long x1, .int x3, .int x4]) (k2_QcV (.long (fX0_wholeOfMixed i x1 x3 x4))) 0 0 (fun _ => False) := by
  refine Met.ofW (cc := cX0_wholeOfMixed) (maxL := 14) (ret := (some .long)) (by decide) rfl ?_
  intro p e s m args below meth c s₁ B hml hv
  obtain ⟨rfl, hKC⟩ := hv
  have hx := B.exec
  have hb := B.bytes
  have hr := B.returns
  have hts := atoms_spec (ws := wsX0_wholeOfMixed) B.pre
  have hown : s.vm.findClass RX0 = some m.cls := findClass_of_methodNamed B.named
  have hlocks := B.notSynchronized
  have hS : va_S (fun _ => False) s.heap s.heap [] := va_S.rf
  have hl := lv_entry ([.ref (ad i), .long x1, .int x3, .int x4]) (n := 14) (Nat.le_of_ble_eq_true rfl)
  rw [lg_entry_eq]
  generalize (lg_sl ([.ref (ad i), .long x1, .int x3, .int x4]) ++ List.replicate (14 - (lg_sl ([.ref (ad i), .long x1, .int x3, .int x4])).length) Slot.unset).toArray = ls at hl ⊢
  have hl : lv_has ls 14 [(0, .ref (ad i)), (1, .long x1), (3, .int x3), (4, .int x4)] := hl
  refine lv_aload_n hx hb dX0_wholeOfMixed_0 rfl (lv_at hl 0 rfl) ?_
  refine lv_lload_n hx hb dX0_wholeOfMixed_1 rfl (lv_at hl 1 rfl) ?_
  refine pc_V (i := i) (As := [.long x1]) (rest := []) (r := .long (fX0_sizeOf i x1)) ⟨hx, hb, hml, hown, hts⟩ (c_X0_sizeOf l ad i hi x1) (cwV 1 hts gX0_wholeOfMixed_X0_sizeOf rfl rfl rfl hd_X0_sizeOf ⟨Nat.le_of_ble_eq_true rfl, Nat.le_of_ble_eq_true rfl⟩) hKC hS hi rfl hl.1 rfl (lv_room (Nat.le_of_ble_eq_true rfl)) dX0_wholeOfMixed_2 ⟨Nat.zero_le _, Nat.zero_le _⟩ ?_
  refine lv_lstore (lv' := [(5, .long (fX0_sizeOf i x1)), (0, .ref (ad i)), (1, .long x1), (3, .int x3), (4, .int x4)]) hx hb dX0_wholeOfMixed_5 hl (by decide) rfl (fun ls hl => ?_)
  refine lv_lconst (v := 1) hx hb dX0_wholeOfMixed_7 (by decide) ?_
  refine lv_iload hx hb dX0_wholeOfMixed_8 (lv_at hl 4 rfl) ?_
  refine lv_lshl hx hb dX0_wholeOfMixed_10 rfl ?_
  refine lv_lstore (lv' := [(7, .long ((1 : Int64) <<< (x4.toInt64 &&& 63))), (5, .long (fX0_sizeOf i x1)), (0, .ref (ad i)), (1, .long x1), (3, .int x3), (4, .int x4)]) hx hb dX0_wholeOfMixed_11 hl (by decide) rfl (fun ls hl => ?_)
  refine lv_lload hx hb dX0_wholeOfMixed_13 (lv_at hl 1 rfl) ?_
  refine lv_lload hx hb dX0_wholeOfMixed_15 (lv_at hl 0 rfl) ?_
  refine lv_lconst (v := 1) hx hb dX0_wholeOfMixed_17 (by decide) ?_
  refine lv_lsub hx hb dX0_wholeOfMixed_18 ?_
  refine lv_land hx hb dX0_wholeOfMixed_19 ?_
  refine lv_topl (fun v20_1 e_v20_1 => ?_)
  refine lv_lstore (lv' := [(9, .long v20_1), (7, .long ((1 : Int64) <<< (x4.toInt64 &&& 63))), (5, .long (fX0_sizeOf i x1)), (0, .ref (ad i)), (1, .long x1), (3, .int x3), (4, .int x4)]) hx hb dX0_wholeOfMixed_20 hl (by decide) rfl (fun ls hl => ?_)
  refine lv_lload hx hb dX0_wholeOfMixed_22 (lv_at hl 2 rfl) ?_
  refine lv_lload hx hb dX0_wholeOfMixed_24 (lv_at hl 0 rfl) ?_
  refine lv_lsub hx hb dX0_wholeOfMixed_26 ?_
  refine lv_lstore (lv' := [(11, .long ((fX0_sizeOf i x1) - v20_1)), (9, .long v20_1), (7, .long ((1 : Int64) <<< (x4.toInt64 &&& 63))), (5, .long (fX0_sizeOf i x1)), (0, .ref (ad i)), (1, .long x1), (3, .int x3), (4, .int x4)]) hx hb dX0_wholeOfMixed_27 hl (by decide) rfl (fun ls hl => ?_)
  refine lv_lload hx hb dX0_wholeOfMixed_29 (lv_at hl 1 rfl) ?_
  refine lv_lconst (v := 0) hx hb dX0_wholeOfMixed_31 (by decide) ?_
  refine pl_ne (tgt := 39) hx hb dX0_wholeOfMixed_32 dX0_wholeOfMixed_33 (by decide) (fun c_2 => ?_) (fun c_2 => ?_)
  · refine lv_iload_n hx hb dX0_wholeOfMixed_39 rfl (lv_at hl 6 rfl) ?_
    refine lv_iconst (v := 2) hx hb dX0_wholeOfMixed_40 (by decide) ?_
    refine lv_icmp_ne (tgt := 65) hx hb dX0_wholeOfMixed_41 (by decide) (fun c_3 => ?_) (fun c_3 => ?_)
    · refine lv_iload_n hx hb dX0_wholeOfMixed_65 rfl (lv_at hl 6 rfl) ?_
      refine lv_lload_n hx hb dX0_wholeOfMixed_66 rfl (lv_at hl 5 rfl) ?_
      refine pc_0 (As := [.int x3, .long x1]) (rest := []) (r := .int (fX0_growsBy x3 x1)) ⟨hx, hb, hml, hown, hts⟩ (c_X0_growsBy l x3 x1) (va_cwS 2 hts gX0_wholeOfMixed_X0_growsBy rfl rfl rfl hd_X0_growsBy ⟨Nat.le_of_ble_eq_true rfl, Nat.le_of_ble_eq_true rfl⟩) rfl hl.1 rfl (lv_room (Nat.le_of_ble_eq_true rfl)) dX0_wholeOfMixed_67 ⟨Nat.zero_le _, Nat.zero_le _⟩ ?_
      refine lv_istore (lv' := [(13, .int (fX0_growsBy x3 x1)), (11, .long ((fX0_sizeOf i x1) - v20_1)), (9, .long v20_1), (7, .long ((1 : Int64) <<< (x4.toInt64 &&& 63))), (5, .long (fX0_sizeOf i x1)), (0, .ref (ad i)), (1, .long x1), (3, .int x3), (4, .int x4)]) hx hb dX0_wholeOfMixed_70 hl (by decide) rfl (fun ls hl => ?_)
      refine lv_iload hx hb dX0_wholeOfMixed_72 (lv_at hl 0 rfl) ?_
      refine lv_if_eq (tgt := 85) hx hb dX0_wholeOfMixed_74 (by decide) (fun c_4 => ?_) (fun c_4 => ?_)
      · refine lv_lload hx hb dX0_wholeOfMixed_85 (lv_at hl 1 rfl) ?_
        exact W.lret hx hb hr (fun t ht _ => ⟨congrArg (fun z => Outcome.returned (some (Value.long z))) (by subst e_v20_1; unfold fX0_wholeOfMixed; dsimp only; rw [if_neg c_2, if_neg c_3, if_pos c_4]), ht⟩) (fun _ h => nomatch h) dX0_wholeOfMixed_87
      · refine lv_lload hx hb dX0_wholeOfMixed_77 (lv_at hl 1 rfl) ?_
        refine lv_lload hx hb dX0_wholeOfMixed_79 (lv_at hl 3 rfl) ?_
        refine lv_ladd hx hb dX0_wholeOfMixed_81 ?_
        refine lv_goto (tgt := 87) hx hb dX0_wholeOfMixed_82 (by decide) ?_
        exact W.lret hx hb hr (fun t ht _ => ⟨congrArg (fun z => Outcome.returned (some (Value.long z))) (by subst e_v20_1; unfold fX0_wholeOfMixed; dsimp only; rw [if_neg c_2, if_neg c_3, if_neg c_4]), ht⟩) (fun _ h => nomatch h) dX0_wholeOfMixed_87
    · refine lv_lload hx hb dX0_wholeOfMixed_44 (lv_at hl 1 rfl) ?_
      refine lv_lload hx hb dX0_wholeOfMixed_46 (lv_at hl 2 rfl) ?_
      refine lv_iconst (v := 1) hx hb dX0_wholeOfMixed_48 (by decide) ?_
      refine lv_lshr hx hb dX0_wholeOfMixed_49 rfl ?_
      refine lv_aload_n hx hb dX0_wholeOfMixed_50 rfl (lv_at hl 4 rfl) ?_
      refine lv_lload hx hb dX0_wholeOfMixed_51 (lv_at hl 3 rfl) ?_
      refine pc_V (i := i) (As := [.long (fX0_sizeOf i x1)]) (rest := [.long (((1 : Int64) <<< (x4.toInt64 &&& 63)) >>> ((1 : Int32).toInt64 &&& 63)), .long v20_1]) (r := .long (fX0_significandOf i (fX0_sizeOf i x1))) ⟨hx, hb, hml, hown, hts⟩ (c_X0_significandOf l ad i hi (fX0_sizeOf i x1)) (cwV 1 hts gX0_wholeOfMixed_X0_significandOf rfl rfl rfl hd_X0_significandOf ⟨Nat.le_of_ble_eq_true rfl, Nat.le_of_ble_eq_true rfl⟩) hKC hS hi rfl hl.1 rfl (lv_room (Nat.le_of_ble_eq_true rfl)) dX0_wholeOfMixed_53 ⟨Nat.zero_le _, Nat.zero_le _⟩ ?_
      refine lv_iload hx hb dX0_wholeOfMixed_56 (lv_at hl 7 rfl) ?_
      refine lv_lshr hx hb dX0_wholeOfMixed_58 rfl ?_
      refine pc_0 (As := [.long v20_1, .long (((1 : Int64) <<< (x4.toInt64 &&& 63)) >>> ((1 : Int32).toInt64 &&& 63)), .long ((fX0_significandOf i (fX0_sizeOf i x1)) >>> (x4.toInt64 &&& 63))]) (rest := []) (r := .int (fX0_isRoundedUp v20_1 (((1 : Int64) <<< (x4.toInt64 &&& 63)) >>> ((1 : Int32).toInt64 &&& 63)) ((fX0_significandOf i (fX0_sizeOf i x1)) >>> (x4.toInt64 &&& 63)))) ⟨hx, hb, hml, hown, hts⟩ (c_X0_isRoundedUp l v20_1 (((1 : Int64) <<< (x4.toInt64 &&& 63)) >>> ((1 : Int32).toInt64 &&& 63)) ((fX0_significandOf i (fX0_sizeOf i x1)) >>> (x4.toInt64 &&& 63))) (va_cwS 3 hts gX0_wholeOfMixed_X0_isRoundedUp rfl rfl rfl hd_X0_isRoundedUp ⟨Nat.le_of_ble_eq_true rfl, Nat.le_of_ble_eq_true rfl⟩) rfl hl.1 rfl (lv_room (Nat.le_of_ble_eq_true rfl)) dX0_wholeOfMixed_59 ⟨Nat.zero_le _, Nat.zero_le _⟩ ?_
      refine lv_goto (tgt := 70) hx hb dX0_wholeOfMixed_62 (by decide) ?_
      refine lv_topi (fun v70_5 e_v70_5 => ?_)
      refine lv_istore (lv' := [(13, .int v70_5), (11, .long ((fX0_sizeOf i x1) - v20_1)), (9, .long v20_1), (7, .long ((1 : Int64) <<< (x4.toInt64 &&& 63))), (5, .long (fX0_sizeOf i x1)), (0, .ref (ad i)), (1, .long x1), (3, .int x3), (4, .int x4)]) hx hb dX0_wholeOfMixed_70 hl (by decide) rfl (fun ls hl => ?_)
      refine lv_iload hx hb dX0_wholeOfMixed_72 (lv_at hl 0 rfl) ?_
      refine lv_if_eq (tgt := 85) hx hb dX0_wholeOfMixed_74 (by decide) (fun c_6 => ?_) (fun c_6 => ?_)
      · refine lv_lload hx hb dX0_wholeOfMixed_85 (lv_at hl 1 rfl) ?_
        exact W.lret hx hb hr (fun t ht _ => ⟨congrArg (fun z => Outcome.returned (some (Value.long z))) (by subst e_v20_1 e_v70_5; unfold fX0_wholeOfMixed; dsimp only; rw [if_neg c_2, if_pos c_3, if_pos c_6]), ht⟩) (fun _ h => nomatch h) dX0_wholeOfMixed_87
      · refine lv_lload hx hb dX0_wholeOfMixed_77 (lv_at hl 1 rfl) ?_
        refine lv_lload hx hb dX0_wholeOfMixed_79 (lv_at hl 3 rfl) ?_
        refine lv_ladd hx hb dX0_wholeOfMixed_81 ?_
        refine lv_goto (tgt := 87) hx hb dX0_wholeOfMixed_82 (by decide) ?_
        exact W.lret hx hb hr (fun t ht _ => ⟨congrArg (fun z => Outcome.returned (some (Value.long z))) (by subst e_v20_1 e_v70_5; unfold fX0_wholeOfMixed; dsimp only; rw [if_neg c_2, if_pos c_3, if_neg c_6]), ht⟩) (fun _ h => nomatch h) dX0_wholeOfMixed_87
  · refine lv_lload hx hb dX0_wholeOfMixed_36 (lv_at hl 3 rfl) ?_
    exact W.lret hx hb hr (fun t ht _ => ⟨congrArg (fun z => Outcome.returned (some (Value.long z))) (by subst e_v20_1; unfold fX0_wholeOfMixed; dsimp only; rw [if_pos c_2]), ht⟩) (fun _ h => nomatch h) dX0_wholeOfMixed_38
def fX0_wholeOf (i : Nat) (x1 : Int64) (x3 : Int32) : Int64 :=
  let v18_1 : Int32 := (fX0_exponentOf i (fX0_sizeOf i x1)) - (kBias i)
  if (fX0_sizeOf i x1) = (0 : Int64) then
    x1
  else
    if v18_1 < (kFrac i) then
      if 0 ≤ v18_1 then
        let v65_5 : Int64 := fX0_wholeOfMixed i x1 x3 ((kFrac i) - v18_1)
        fX0_withSideOf i v65_5 x1
      else
        fX0_withSideOf i (fX0_wholeOfPart i x1 x3) x1
    else
      x1
theorem hd_X0_wholeOf : yX0_wholeOf.cls = RX0 ∧ yX0_wholeOf.cls ≠ "java/lang/invoke/MethodHandle" ∧ yX0_wholeOf.cls ≠ "java/lang/invoke/VarHandle" ∧ (parseMethodDescriptor yX0_wholeOf.desc).map (fun d => d.parameters.length) = some 2 := by decide +kernel
set_option maxHeartbeats 4000000 in
set_option maxRecDepth 100000 in
theorem c_X0_wholeOf (l : Launch) (ad : Nat → Nat) (i : Nat) (hi : i < 2) (x1 : Int64) (x3 : Int32) : Met l yX0_wholeOf wsX0_wholeOf ({ frames := 2, cells := 0, slots := 0, locals := 58 }) (PK ad [.ref (ad i), .long x1, .int x3]) (k2_QcV (.long (fX0_wholeOf i x1 x3))) 0 0 (fun _ => False) := by
  refine Met.ofW (cc := cX0_wholeOf) (maxL := 9) (ret := (some .long)) (by decide) rfl ?_
  intro p e s m args below meth c s₁ B hml hv
  obtain ⟨rfl, hKC⟩ := hv
  have hx := B.exec
  have hb := B.bytes
  have hr := B.returns
  have hts := atoms_spec (ws := wsX0_wholeOf) B.pre
  have hown : s.vm.findClass RX0 = some m.cls := findClass_of_methodNamed B.named
  have hlocks := B.notSynchronized
  have hS : va_S (fun _ => False) s.heap s.heap [] := va_S.rf
  have hl := lv_entry ([.ref (ad i), .long x1, .int x3]) (n := 9) (Nat.le_of_ble_eq_true rfl)
  rw [lg_entry_eq]
  generalize (lg_sl ([.ref (ad i), .long x1, .int x3]) ++ List.replicate (9 - (lg_sl ([.ref (ad i), .long x1, .int x3])).length) Slot.unset).toArray = ls at hl ⊢
  have hl : lv_has ls 9 [(0, .ref (ad i)), (1, .long x1), (3, .int x3)] := hl
  refine lv_aload_n hx hb dX0_wholeOf_0 rfl (lv_at hl 0 rfl) ?_
  refine lv_lload_n hx hb dX0_wholeOf_1 rfl (lv_at hl 1 rfl) ?_
  refine pc_V (i := i) (As := [.long x1]) (rest := []) (r := .long (fX0_sizeOf i x1)) ⟨hx, hb, hml, hown, hts⟩ (c_X0_sizeOf l ad i hi x1) (cwV 1 hts gX0_wholeOf_X0_sizeOf rfl rfl rfl hd_X0_sizeOf ⟨Nat.le_of_ble_eq_true rfl, Nat.le_of_ble_eq_true rfl⟩) hKC hS hi rfl hl.1 rfl (lv_room (Nat.le_of_ble_eq_true rfl)) dX0_wholeOf_2 ⟨Nat.zero_le _, Nat.zero_le _⟩ ?_
  refine lv_lstore (lv' := [(4, .long (fX0_sizeOf i x1)), (0, .ref (ad i)), (1, .long x1), (3, .int x3)]) hx hb dX0_wholeOf_5 hl (by decide) rfl (fun ls hl => ?_)
  refine lv_aload_n hx hb dX0_wholeOf_7 rfl (lv_at hl 1 rfl) ?_
  refine lv_lload hx hb dX0_wholeOf_8 (lv_at hl 0 rfl) ?_
  refine pc_V (i := i) (As := [.long (fX0_sizeOf i x1)]) (rest := []) (r := .int (fX0_exponentOf i (fX0_sizeOf i x1))) ⟨hx, hb, hml, hown, hts⟩ (c_X0_exponentOf l ad i hi (fX0_sizeOf i x1)) (cwV 1 hts gX0_wholeOf_X0_exponentOf rfl rfl rfl hd_X0_exponentOf ⟨Nat.le_of_ble_eq_true rfl, Nat.le_of_ble_eq_true rfl⟩) hKC hS hi rfl hl.1 rfl (lv_room (Nat.le_of_ble_eq_true rfl)) dX0_wholeOf_10 ⟨Nat.zero_le _, Nat.zero_le _⟩ ?_
  refine lv_aload_n hx hb dX0_wholeOf_13 rfl (lv_at hl 1 rfl) ?_
  refine pk_bias hx hb hKC hi hS hown (hts (.fieldLink RX0 33 "NeedleBoard$Kind" "bias" "I") (by decide +kernel)) dX0_wholeOf_14 ?_
  refine lv_isub hx hb dX0_wholeOf_17 ?_
  refine lv_topi (fun v18_1 e_v18_1 => ?_)
  refine lv_istore (lv' := [(6, .int v18_1), (4, .long (fX0_sizeOf i x1)), (0, .ref (ad i)), (1, .long x1), (3, .int x3)]) hx hb dX0_wholeOf_18 hl (by decide) rfl (fun ls hl => ?_)
  refine lv_lload hx hb dX0_wholeOf_20 (lv_at hl 1 rfl) ?_
  refine lv_lconst (v := 0) hx hb dX0_wholeOf_22 (by decide) ?_
  refine pl_eq (tgt := 36) hx hb dX0_wholeOf_23 dX0_wholeOf_24 (by decide) (fun c_2 => ?_) (fun c_2 => ?_)
  · refine lv_lload_n hx hb dX0_wholeOf_36 rfl (lv_at hl 3 rfl) ?_
    exact W.lret hx hb hr (fun t ht _ => ⟨congrArg (fun z => Outcome.returned (some (Value.long z))) (by rw [fX0_wholeOf]; dsimp only; rw [if_pos c_2]), ht⟩) (fun _ h => nomatch h) dX0_wholeOf_37
  · refine lv_iload hx hb dX0_wholeOf_27 (lv_at hl 0 rfl) ?_
    refine lv_aload_n hx hb dX0_wholeOf_29 rfl (lv_at hl 2 rfl) ?_
    refine pk_frac hx hb hKC hi hS hown (hts (.fieldLink RX0 29 "NeedleBoard$Kind" "fractionBits" "I") (by decide +kernel)) dX0_wholeOf_30 ?_
    refine lv_icmp_lt (tgt := 38) hx hb dX0_wholeOf_33 (by decide) (fun c_3 => ?_) (fun c_3 => ?_)
    · refine lv_iload hx hb dX0_wholeOf_38 (lv_at hl 0 rfl) ?_
      refine lv_if_ge (tgt := 52) hx hb dX0_wholeOf_40 (by decide) (fun c_4 => ?_) (fun c_4 => ?_)
      · refine lv_aload_n hx hb dX0_wholeOf_52 rfl (lv_at hl 2 rfl) ?_
        refine lv_lload_n hx hb dX0_wholeOf_53 rfl (lv_at hl 3 rfl) ?_
        refine lv_iload_n hx hb dX0_wholeOf_54 rfl (lv_at hl 4 rfl) ?_
        refine lv_aload_n hx hb dX0_wholeOf_55 rfl (lv_at hl 2 rfl) ?_
        refine pk_frac hx hb hKC hi hS hown (hts (.fieldLink RX0 29 "NeedleBoard$Kind" "fractionBits" "I") (by decide +kernel)) dX0_wholeOf_56 ?_
        refine lv_iload hx hb dX0_wholeOf_59 (lv_at hl 0 rfl) ?_
        refine lv_isub hx hb dX0_wholeOf_61 ?_
        refine pc_V (i := i) (As := [.long x1, .int x3, .int ((kFrac i) - v18_1)]) (rest := []) (r := .long (fX0_wholeOfMixed i x1 x3 ((kFrac i) - v18_1))) ⟨hx, hb, hml, hown, hts⟩ (c_X0_wholeOfMixed l ad i hi x1 x3 ((kFrac i) - v18_1)) (cwV 3 hts gX0_wholeOf_X0_wholeOfMixed rfl rfl rfl hd_X0_wholeOfMixed ⟨Nat.le_of_ble_eq_true rfl, Nat.le_of_ble_eq_true rfl⟩) hKC hS hi rfl hl.1 rfl (lv_room (Nat.le_of_ble_eq_true rfl)) dX0_wholeOf_62 ⟨Nat.zero_le _, Nat.zero_le _⟩ ?_
        refine lv_topl (fun v65_5 e_v65_5 => ?_)
        refine lv_lstore (lv' := [(7, .long v65_5), (6, .int v18_1), (4, .long (fX0_sizeOf i x1)), (0, .ref (ad i)), (1, .long x1), (3, .int x3)]) hx hb dX0_wholeOf_65 hl (by decide) rfl (fun ls hl => ?_)
        refine lv_aload_n hx hb dX0_wholeOf_67 rfl (lv_at hl 3 rfl) ?_
        refine lv_lload hx hb dX0_wholeOf_68 (lv_at hl 0 rfl) ?_
        refine lv_lload_n hx hb dX0_wholeOf_70 rfl (lv_at hl 4 rfl) ?_
        refine pc_V (i := i) (As := [.long v65_5, .long x1]) (rest := []) (r := .long (fX0_withSideOf i v65_5 x1)) ⟨hx, hb, hml, hown, hts⟩ (c_X0_withSideOf l ad i hi v65_5 x1) (cwV 2 hts gX0_wholeOf_X0_withSideOf rfl rfl rfl hd_X0_withSideOf ⟨Nat.le_of_ble_eq_true rfl, Nat.le_of_ble_eq_true rfl⟩) hKC hS hi rfl hl.1 rfl (lv_room (Nat.le_of_ble_eq_true rfl)) dX0_wholeOf_71 ⟨Nat.zero_le _, Nat.zero_le _⟩ ?_
        exact W.lret hx hb hr (fun t ht _ => ⟨congrArg (fun z => Outcome.returned (some (Value.long z))) (by subst e_v18_1 e_v65_5; unfold fX0_wholeOf; dsimp only; rw [if_neg c_2, if_pos c_3, if_pos c_4]), ht⟩) (fun _ h => nomatch h) dX0_wholeOf_74
      · refine lv_aload_n hx hb dX0_wholeOf_43 rfl (lv_at hl 2 rfl) ?_
        refine lv_lload_n hx hb dX0_wholeOf_44 rfl (lv_at hl 3 rfl) ?_
        refine lv_iload_n hx hb dX0_wholeOf_45 rfl (lv_at hl 4 rfl) ?_
        refine pc_V (i := i) (As := [.long x1, .int x3]) (rest := []) (r := .long (fX0_wholeOfPart i x1 x3)) ⟨hx, hb, hml, hown, hts⟩ (c_X0_wholeOfPart l ad i hi x1 x3) (cwV 2 hts gX0_wholeOf_X0_wholeOfPart rfl rfl rfl hd_X0_wholeOfPart ⟨Nat.le_of_ble_eq_true rfl, Nat.le_of_ble_eq_true rfl⟩) hKC hS hi rfl hl.1 rfl (lv_room (Nat.le_of_ble_eq_true rfl)) dX0_wholeOf_46 ⟨Nat.zero_le _, Nat.zero_le _⟩ ?_
        refine lv_goto (tgt := 65) hx hb dX0_wholeOf_49 (by decide) ?_
        refine lv_lstore (lv' := [(7, .long (fX0_wholeOfPart i x1 x3)), (6, .int v18_1), (4, .long (fX0_sizeOf i x1)), (0, .ref (ad i)), (1, .long x1), (3, .int x3)]) hx hb dX0_wholeOf_65 hl (by decide) rfl (fun ls hl => ?_)
        refine lv_aload_n hx hb dX0_wholeOf_67 rfl (lv_at hl 3 rfl) ?_
        refine lv_lload hx hb dX0_wholeOf_68 (lv_at hl 0 rfl) ?_
        refine lv_lload_n hx hb dX0_wholeOf_70 rfl (lv_at hl 4 rfl) ?_
        refine pc_V (i := i) (As := [.long (fX0_wholeOfPart i x1 x3), .long x1]) (rest := []) (r := .long (fX0_withSideOf i (fX0_wholeOfPart i x1 x3) x1)) ⟨hx, hb, hml, hown, hts⟩ (c_X0_withSideOf l ad i hi (fX0_wholeOfPart i x1 x3) x1) (cwV 2 hts gX0_wholeOf_X0_withSideOf rfl rfl rfl hd_X0_withSideOf ⟨Nat.le_of_ble_eq_true rfl, Nat.le_of_ble_eq_true rfl⟩) hKC hS hi rfl hl.1 rfl (lv_room (Nat.le_of_ble_eq_true rfl)) dX0_wholeOf_71 ⟨Nat.zero_le _, Nat.zero_le _⟩ ?_
        exact W.lret hx hb hr (fun t ht _ => ⟨congrArg (fun z => Outcome.returned (some (Value.long z))) (by subst e_v18_1; unfold fX0_wholeOf; dsimp only; rw [if_neg c_2, if_pos c_3, if_neg c_4]), ht⟩) (fun _ h => nomatch h) dX0_wholeOf_74
    · refine lv_lload_n hx hb dX0_wholeOf_36 rfl (lv_at hl 3 rfl) ?_
      exact W.lret hx hb hr (fun t ht _ => ⟨congrArg (fun z => Outcome.returned (some (Value.long z))) (by subst e_v18_1; unfold fX0_wholeOf; dsimp only; rw [if_neg c_2, if_neg c_3]), ht⟩) (fun _ h => nomatch h) dX0_wholeOf_37
def fX0_sumByLarger (i : Nat) (x1 : Int64) (x3 : Int64) : Int64 :=
  if (fX0_sizeOf i x1) = (kInf i) then
    x1
  else
    let v42_2 : Int64 := (fX0_significandOf i (fX0_sizeOf i x1)) <<< ((3 : Int32).toInt64 &&& 63)
    let v64_3 : Int64 := fX0_shiftedDown ((fX0_significandOf i (fX0_sizeOf i x3)) <<< ((3 : Int32).toInt64 &&& 63)) ((fX0_exponentOf i (fX0_sizeOf i x1)) - (fX0_exponentOf i (fX0_sizeOf i x3)))
    if (0 : Int64) ≤ x1 then
      if (0 : Int64) ≤ x3 then
        if (v42_2 + v64_3) = (0 : Int64) then
          x1
        else
          fX0_withSideOf i (fX0_sizeFrom i (v42_2 + v64_3) (fX0_exponentOf i (fX0_sizeOf i x1))) x1
      else
        if (v42_2 - v64_3) = (0 : Int64) then
          (0 : Int64)
        else
          fX0_withSideOf i (fX0_sizeFrom i (v42_2 - v64_3) (fX0_exponentOf i (fX0_sizeOf i x1))) x1
    else
      if (0 : Int64) ≤ x3 then
        if (v42_2 - v64_3) = (0 : Int64) then
          (0 : Int64)
        else
          fX0_withSideOf i (fX0_sizeFrom i (v42_2 - v64_3) (fX0_exponentOf i (fX0_sizeOf i x1))) x1
      else
        if (v42_2 + v64_3) = (0 : Int64) then
          x1
        else
          fX0_withSideOf i (fX0_sizeFrom i (v42_2 + v64_3) (fX0_exponentOf i (fX0_sizeOf i x1))) x1
theorem hd_X0_sumByLarger : yX0_sumByLarger.cls = RX0 ∧ yX0_sumByLarger.cls ≠ "java/lang/invoke/MethodHandle" ∧ yX0_sumByLarger.cls ≠ "java/lang/invoke/VarHandle" ∧ (parseMethodDescriptor yX0_sumByLarger.desc).map (fun d => d.parameters.length) = some 2 := by decide +kernel
set_option maxHeartbeats 4000000 in
set_option maxRecDepth 100000 in
theorem c_X0_sumByLarger (l : Launch) (ad : Nat → Nat) (i : Nat) (hi : i < 2) (x1 : Int64) (x3 : Int64) : Met l yX0_sumByLarger wsX0_sumByLarger ({ frames := 3, cells := 0, slots := 0, locals := 77 }) (PK ad [.ref (ad i), .long x1, .long x3]) (k2_QcV (.long (fX0_sumByLarger i x1 x3))) 0 0 (fun _ => False) := by
  refine Met.ofW (cc := cX0_sumByLarger) (maxL := 17) (ret := (some .long)) (by decide) rfl ?_
  intro p e s m args below meth c s₁ B hml hv
  obtain ⟨rfl, hKC⟩ := hv
  have hx := B.exec
  have hb := B.bytes
  have hr := B.returns
  have hts := atoms_spec (ws := wsX0_sumByLarger) B.pre
  have hown : s.vm.findClass RX0 = some m.cls := findClass_of_methodNamed B.named
  have hlocks := B.notSynchronized
  have hS : va_S (fun _ => False) s.heap s.heap [] := va_S.rf
  have hl := lv_entry ([.ref (ad i), .long x1, .long x3]) (n := 17) (Nat.le_of_ble_eq_true rfl)
  rw [lg_entry_eq]
  generalize (lg_sl ([.ref (ad i), .long x1, .long x3]) ++ List.replicate (17 - (lg_sl ([.ref (ad i), .long x1, .long x3])).length) Slot.unset).toArray = ls at hl ⊢
  have hl : lv_has ls 17 [(0, .ref (ad i)), (1, .long x1), (3, .long x3)] := hl
  refine lv_aload_n hx hb dX0_sumByLarger_0 rfl (lv_at hl 0 rfl) ?_
  refine lv_lload_n hx hb dX0_sumByLarger_1 rfl (lv_at hl 1 rfl) ?_
  refine pc_V (i := i) (As := [.long x1]) (rest := []) (r := .long (fX0_sizeOf i x1)) ⟨hx, hb, hml, hown, hts⟩ (c_X0_sizeOf l ad i hi x1) (cwV 1 hts gX0_sumByLarger_X0_sizeOf rfl rfl rfl hd_X0_sizeOf ⟨Nat.le_of_ble_eq_true rfl, Nat.le_of_ble_eq_true rfl⟩) hKC hS hi rfl hl.1 rfl (lv_room (Nat.le_of_ble_eq_true rfl)) dX0_sumByLarger_2 ⟨Nat.zero_le _, Nat.zero_le _⟩ ?_
  refine lv_lstore (lv' := [(5, .long (fX0_sizeOf i x1)), (0, .ref (ad i)), (1, .long x1), (3, .long x3)]) hx hb dX0_sumByLarger_5 hl (by decide) rfl (fun ls hl => ?_)
  refine lv_lload hx hb dX0_sumByLarger_7 (lv_at hl 0 rfl) ?_
  refine lv_aload_n hx hb dX0_sumByLarger_9 rfl (lv_at hl 1 rfl) ?_
  refine pk_inf hx hb hKC hi hS hown (hts (.fieldLink RX0 48 "NeedleBoard$Kind" "infinity" "J") (by decide +kernel)) dX0_sumByLarger_10 ?_
  refine pl_ne (tgt := 19) hx hb dX0_sumByLarger_13 dX0_sumByLarger_14 (by decide) (fun c_1 => ?_) (fun c_1 => ?_)
  · refine lv_aload_n hx hb dX0_sumByLarger_19 rfl (lv_at hl 1 rfl) ?_
    refine lv_lload_n hx hb dX0_sumByLarger_20 rfl (lv_at hl 3 rfl) ?_
    refine pc_V (i := i) (As := [.long x3]) (rest := []) (r := .long (fX0_sizeOf i x3)) ⟨hx, hb, hml, hown, hts⟩ (c_X0_sizeOf l ad i hi x3) (cwV 1 hts gX0_sumByLarger_X0_sizeOf rfl rfl rfl hd_X0_sizeOf ⟨Nat.le_of_ble_eq_true rfl, Nat.le_of_ble_eq_true rfl⟩) hKC hS hi rfl hl.1 rfl (lv_room (Nat.le_of_ble_eq_true rfl)) dX0_sumByLarger_21 ⟨Nat.zero_le _, Nat.zero_le _⟩ ?_
    refine lv_lstore (lv' := [(7, .long (fX0_sizeOf i x3)), (5, .long (fX0_sizeOf i x1)), (0, .ref (ad i)), (1, .long x1), (3, .long x3)]) hx hb dX0_sumByLarger_24 hl (by decide) rfl (fun ls hl => ?_)
    refine lv_aload_n hx hb dX0_sumByLarger_26 rfl (lv_at hl 2 rfl) ?_
    refine lv_lload hx hb dX0_sumByLarger_27 (lv_at hl 1 rfl) ?_
    refine pc_V (i := i) (As := [.long (fX0_sizeOf i x1)]) (rest := []) (r := .int (fX0_exponentOf i (fX0_sizeOf i x1))) ⟨hx, hb, hml, hown, hts⟩ (c_X0_exponentOf l ad i hi (fX0_sizeOf i x1)) (cwV 1 hts gX0_sumByLarger_X0_exponentOf rfl rfl rfl hd_X0_exponentOf ⟨Nat.le_of_ble_eq_true rfl, Nat.le_of_ble_eq_true rfl⟩) hKC hS hi rfl hl.1 rfl (lv_room (Nat.le_of_ble_eq_true rfl)) dX0_sumByLarger_29 ⟨Nat.zero_le _, Nat.zero_le _⟩ ?_
    refine lv_istore (lv' := [(9, .int (fX0_exponentOf i (fX0_sizeOf i x1))), (7, .long (fX0_sizeOf i x3)), (5, .long (fX0_sizeOf i x1)), (0, .ref (ad i)), (1, .long x1), (3, .long x3)]) hx hb dX0_sumByLarger_32 hl (by decide) rfl (fun ls hl => ?_)
    refine lv_aload_n hx hb dX0_sumByLarger_34 rfl (lv_at hl 3 rfl) ?_
    refine lv_lload hx hb dX0_sumByLarger_35 (lv_at hl 2 rfl) ?_
    refine pc_V (i := i) (As := [.long (fX0_sizeOf i x1)]) (rest := []) (r := .long (fX0_significandOf i (fX0_sizeOf i x1))) ⟨hx, hb, hml, hown, hts⟩ (c_X0_significandOf l ad i hi (fX0_sizeOf i x1)) (cwV 1 hts gX0_sumByLarger_X0_significandOf rfl rfl rfl hd_X0_significandOf ⟨Nat.le_of_ble_eq_true rfl, Nat.le_of_ble_eq_true rfl⟩) hKC hS hi rfl hl.1 rfl (lv_room (Nat.le_of_ble_eq_true rfl)) dX0_sumByLarger_37 ⟨Nat.zero_le _, Nat.zero_le _⟩ ?_
    refine lv_iconst (v := 3) hx hb dX0_sumByLarger_40 (by decide) ?_
    refine lv_lshl hx hb dX0_sumByLarger_41 rfl ?_
    refine lv_topl (fun v42_2 e_v42_2 => ?_)
    refine lv_lstore (lv' := [(10, .long v42_2), (9, .int (fX0_exponentOf i (fX0_sizeOf i x1))), (7, .long (fX0_sizeOf i x3)), (5, .long (fX0_sizeOf i x1)), (0, .ref (ad i)), (1, .long x1), (3, .long x3)]) hx hb dX0_sumByLarger_42 hl (by decide) rfl (fun ls hl => ?_)
    refine lv_aload_n hx hb dX0_sumByLarger_44 rfl (lv_at hl 4 rfl) ?_
    refine lv_lload hx hb dX0_sumByLarger_45 (lv_at hl 2 rfl) ?_
    refine pc_V (i := i) (As := [.long (fX0_sizeOf i x3)]) (rest := []) (r := .long (fX0_significandOf i (fX0_sizeOf i x3))) ⟨hx, hb, hml, hown, hts⟩ (c_X0_significandOf l ad i hi (fX0_sizeOf i x3)) (cwV 1 hts gX0_sumByLarger_X0_significandOf rfl rfl rfl hd_X0_significandOf ⟨Nat.le_of_ble_eq_true rfl, Nat.le_of_ble_eq_true rfl⟩) hKC hS hi rfl hl.1 rfl (lv_room (Nat.le_of_ble_eq_true rfl)) dX0_sumByLarger_47 ⟨Nat.zero_le _, Nat.zero_le _⟩ ?_
    refine lv_iconst (v := 3) hx hb dX0_sumByLarger_50 (by decide) ?_
    refine lv_lshl hx hb dX0_sumByLarger_51 rfl ?_
    refine lv_iload hx hb dX0_sumByLarger_52 (lv_at hl 1 rfl) ?_
    refine lv_aload_n hx hb dX0_sumByLarger_54 rfl (lv_at hl 4 rfl) ?_
    refine lv_lload hx hb dX0_sumByLarger_55 (lv_at hl 2 rfl) ?_
    refine pc_V (i := i) (As := [.long (fX0_sizeOf i x3)]) (rest := [.int (fX0_exponentOf i (fX0_sizeOf i x1)), .long ((fX0_significandOf i (fX0_sizeOf i x3)) <<< ((3 : Int32).toInt64 &&& 63))]) (r := .int (fX0_exponentOf i (fX0_sizeOf i x3))) ⟨hx, hb, hml, hown, hts⟩ (c_X0_exponentOf l ad i hi (fX0_sizeOf i x3)) (cwV 1 hts gX0_sumByLarger_X0_exponentOf rfl rfl rfl hd_X0_exponentOf ⟨Nat.le_of_ble_eq_true rfl, Nat.le_of_ble_eq_true rfl⟩) hKC hS hi rfl hl.1 rfl (lv_room (Nat.le_of_ble_eq_true rfl)) dX0_sumByLarger_57 ⟨Nat.zero_le _, Nat.zero_le _⟩ ?_
    refine lv_isub hx hb dX0_sumByLarger_60 ?_
    refine pc_0 (As := [.long ((fX0_significandOf i (fX0_sizeOf i x3)) <<< ((3 : Int32).toInt64 &&& 63)), .int ((fX0_exponentOf i (fX0_sizeOf i x1)) - (fX0_exponentOf i (fX0_sizeOf i x3)))]) (rest := []) (r := .long (fX0_shiftedDown ((fX0_significandOf i (fX0_sizeOf i x3)) <<< ((3 : Int32).toInt64 &&& 63)) ((fX0_exponentOf i (fX0_sizeOf i x1)) - (fX0_exponentOf i (fX0_sizeOf i x3))))) ⟨hx, hb, hml, hown, hts⟩ (c_X0_shiftedDown l ((fX0_significandOf i (fX0_sizeOf i x3)) <<< ((3 : Int32).toInt64 &&& 63)) ((fX0_exponentOf i (fX0_sizeOf i x1)) - (fX0_exponentOf i (fX0_sizeOf i x3)))) (va_cwS 2 hts gX0_sumByLarger_X0_shiftedDown rfl rfl rfl hd_X0_shiftedDown ⟨Nat.le_of_ble_eq_true rfl, Nat.le_of_ble_eq_true rfl⟩) rfl hl.1 rfl (lv_room (Nat.le_of_ble_eq_true rfl)) dX0_sumByLarger_61 ⟨Nat.zero_le _, Nat.zero_le _⟩ ?_
    refine lv_topl (fun v64_3 e_v64_3 => ?_)
    refine lv_lstore (lv' := [(12, .long v64_3), (10, .long v42_2), (9, .int (fX0_exponentOf i (fX0_sizeOf i x1))), (7, .long (fX0_sizeOf i x3)), (5, .long (fX0_sizeOf i x1)), (0, .ref (ad i)), (1, .long x1), (3, .long x3)]) hx hb dX0_sumByLarger_64 hl (by decide) rfl (fun ls hl => ?_)
    refine lv_lload_n hx hb dX0_sumByLarger_66 rfl (lv_at hl 6 rfl) ?_
    refine lv_lconst (v := 0) hx hb dX0_sumByLarger_67 (by decide) ?_
    refine pl_ge (tgt := 76) hx hb dX0_sumByLarger_68 dX0_sumByLarger_69 (by decide) (fun c_4 => ?_) (fun c_4 => ?_)
    · refine lv_iconst (v := 0) hx hb dX0_sumByLarger_76 (by decide) ?_
      refine lv_lload_n hx hb dX0_sumByLarger_77 rfl (lv_at hl 7 rfl) ?_
      refine lv_lconst (v := 0) hx hb dX0_sumByLarger_78 (by decide) ?_
      refine pl_ge (tgt := 87) hx hb dX0_sumByLarger_79 dX0_sumByLarger_80 (by decide) (fun c_5 => ?_) (fun c_5 => ?_)
      · refine lv_iconst (v := 0) hx hb dX0_sumByLarger_87 (by decide) ?_
        refine lv_icmp_ne (tgt := 95) hx hb dX0_sumByLarger_88 (by decide) (fun h9 => absurd h9 (by decide)) (fun _ => ?_)
        refine lv_iconst (v := 1) hx hb dX0_sumByLarger_91 (by decide) ?_
        refine lv_goto (tgt := 96) hx hb dX0_sumByLarger_92 (by decide) ?_
        refine lv_istore (lv' := [(14, .int (1 : Int32)), (12, .long v64_3), (10, .long v42_2), (9, .int (fX0_exponentOf i (fX0_sizeOf i x1))), (7, .long (fX0_sizeOf i x3)), (5, .long (fX0_sizeOf i x1)), (0, .ref (ad i)), (1, .long x1), (3, .long x3)]) hx hb dX0_sumByLarger_96 hl (by decide) rfl (fun ls hl => ?_)
        refine lv_iload hx hb dX0_sumByLarger_98 (lv_at hl 0 rfl) ?_
        refine lv_if_eq (tgt := 111) hx hb dX0_sumByLarger_100 (by decide) (fun h9 => absurd h9 (by decide)) (fun _ => ?_)
        refine lv_lload hx hb dX0_sumByLarger_103 (lv_at hl 2 rfl) ?_
        refine lv_lload hx hb dX0_sumByLarger_105 (lv_at hl 1 rfl) ?_
        refine lv_ladd hx hb dX0_sumByLarger_107 ?_
        refine lv_goto (tgt := 116) hx hb dX0_sumByLarger_108 (by decide) ?_
        refine lv_lstore (lv' := [(15, .long (v42_2 + v64_3)), (14, .int (1 : Int32)), (12, .long v64_3), (10, .long v42_2), (9, .int (fX0_exponentOf i (fX0_sizeOf i x1))), (7, .long (fX0_sizeOf i x3)), (5, .long (fX0_sizeOf i x1)), (0, .ref (ad i)), (1, .long x1), (3, .long x3)]) hx hb dX0_sumByLarger_116 hl (by decide) rfl (fun ls hl => ?_)
        refine lv_lload hx hb dX0_sumByLarger_118 (lv_at hl 0 rfl) ?_
        refine lv_lconst (v := 0) hx hb dX0_sumByLarger_120 (by decide) ?_
        refine pl_ne (tgt := 136) hx hb dX0_sumByLarger_121 dX0_sumByLarger_122 (by decide) (fun c_6 => ?_) (fun c_6 => ?_)
        · refine lv_aload_n hx hb dX0_sumByLarger_136 rfl (lv_at hl 7 rfl) ?_
          refine lv_aload_n hx hb dX0_sumByLarger_137 rfl (lv_at hl 7 rfl) ?_
          refine lv_lload hx hb dX0_sumByLarger_138 (lv_at hl 0 rfl) ?_
          refine lv_iload hx hb dX0_sumByLarger_140 (lv_at hl 4 rfl) ?_
          refine pc_V (i := i) (As := [.long (v42_2 + v64_3), .int (fX0_exponentOf i (fX0_sizeOf i x1))]) (rest := [.ref (ad i)]) (r := .long (fX0_sizeFrom i (v42_2 + v64_3) (fX0_exponentOf i (fX0_sizeOf i x1)))) ⟨hx, hb, hml, hown, hts⟩ (c_X0_sizeFrom l ad i hi (v42_2 + v64_3) (fX0_exponentOf i (fX0_sizeOf i x1))) (cwV 2 hts gX0_sumByLarger_X0_sizeFrom rfl rfl rfl hd_X0_sizeFrom ⟨Nat.le_of_ble_eq_true rfl, Nat.le_of_ble_eq_true rfl⟩) hKC hS hi rfl hl.1 rfl (lv_room (Nat.le_of_ble_eq_true rfl)) dX0_sumByLarger_142 ⟨Nat.zero_le _, Nat.zero_le _⟩ ?_
          refine lv_lload_n hx hb dX0_sumByLarger_145 rfl (lv_at hl 8 rfl) ?_
          refine pc_V (i := i) (As := [.long (fX0_sizeFrom i (v42_2 + v64_3) (fX0_exponentOf i (fX0_sizeOf i x1))), .long x1]) (rest := []) (r := .long (fX0_withSideOf i (fX0_sizeFrom i (v42_2 + v64_3) (fX0_exponentOf i (fX0_sizeOf i x1))) x1)) ⟨hx, hb, hml, hown, hts⟩ (c_X0_withSideOf l ad i hi (fX0_sizeFrom i (v42_2 + v64_3) (fX0_exponentOf i (fX0_sizeOf i x1))) x1) (cwV 2 hts gX0_sumByLarger_X0_withSideOf rfl rfl rfl hd_X0_withSideOf ⟨Nat.le_of_ble_eq_true rfl, Nat.le_of_ble_eq_true rfl⟩) hKC hS hi rfl hl.1 rfl (lv_room (Nat.le_of_ble_eq_true rfl)) dX0_sumByLarger_146 ⟨Nat.zero_le _, Nat.zero_le _⟩ ?_
          exact W.lret hx hb hr (fun t ht _ => ⟨congrArg (fun z => Outcome.returned (some (Value.long z))) (by subst e_v42_2 e_v64_3; unfold fX0_sumByLarger; dsimp only; rw [if_neg c_1, if_pos c_4, if_pos c_5, if_neg c_6]), ht⟩) (fun _ h => nomatch h) dX0_sumByLarger_149
        · refine lv_iload hx hb dX0_sumByLarger_125 (lv_at hl 1 rfl) ?_
          refine lv_if_eq (tgt := 134) hx hb dX0_sumByLarger_127 (by decide) (fun h9 => absurd h9 (by decide)) (fun _ => ?_)
          refine lv_lload_n hx hb dX0_sumByLarger_130 rfl (lv_at hl 8 rfl) ?_
          refine lv_goto (tgt := 135) hx hb dX0_sumByLarger_131 (by decide) ?_
          exact W.lret hx hb hr (fun t ht _ => ⟨congrArg (fun z => Outcome.returned (some (Value.long z))) (by subst e_v42_2 e_v64_3; unfold fX0_sumByLarger; dsimp only; rw [if_neg c_1, if_pos c_4, if_pos c_5, if_pos c_6]), ht⟩) (fun _ h => nomatch h) dX0_sumByLarger_135
      · refine lv_iconst (v := 1) hx hb dX0_sumByLarger_83 (by decide) ?_
        refine lv_goto (tgt := 88) hx hb dX0_sumByLarger_84 (by decide) ?_
        refine lv_icmp_ne (tgt := 95) hx hb dX0_sumByLarger_88 (by decide) (fun _ => ?_) (fun h9 => absurd h9 (by decide))
        refine lv_iconst (v := 0) hx hb dX0_sumByLarger_95 (by decide) ?_
        refine lv_istore (lv' := [(14, .int (0 : Int32)), (12, .long v64_3), (10, .long v42_2), (9, .int (fX0_exponentOf i (fX0_sizeOf i x1))), (7, .long (fX0_sizeOf i x3)), (5, .long (fX0_sizeOf i x1)), (0, .ref (ad i)), (1, .long x1), (3, .long x3)]) hx hb dX0_sumByLarger_96 hl (by decide) rfl (fun ls hl => ?_)
        refine lv_iload hx hb dX0_sumByLarger_98 (lv_at hl 0 rfl) ?_
        refine lv_if_eq (tgt := 111) hx hb dX0_sumByLarger_100 (by decide) (fun _ => ?_) (fun h9 => absurd h9 (by decide))
        refine lv_lload hx hb dX0_sumByLarger_111 (lv_at hl 2 rfl) ?_
        refine lv_lload hx hb dX0_sumByLarger_113 (lv_at hl 1 rfl) ?_
        refine lv_lsub hx hb dX0_sumByLarger_115 ?_
        refine lv_lstore (lv' := [(15, .long (v42_2 - v64_3)), (14, .int (0 : Int32)), (12, .long v64_3), (10, .long v42_2), (9, .int (fX0_exponentOf i (fX0_sizeOf i x1))), (7, .long (fX0_sizeOf i x3)), (5, .long (fX0_sizeOf i x1)), (0, .ref (ad i)), (1, .long x1), (3, .long x3)]) hx hb dX0_sumByLarger_116 hl (by decide) rfl (fun ls hl => ?_)
        refine lv_lload hx hb dX0_sumByLarger_118 (lv_at hl 0 rfl) ?_
        refine lv_lconst (v := 0) hx hb dX0_sumByLarger_120 (by decide) ?_
        refine pl_ne (tgt := 136) hx hb dX0_sumByLarger_121 dX0_sumByLarger_122 (by decide) (fun c_7 => ?_) (fun c_7 => ?_)
        · refine lv_aload_n hx hb dX0_sumByLarger_136 rfl (lv_at hl 7 rfl) ?_
          refine lv_aload_n hx hb dX0_sumByLarger_137 rfl (lv_at hl 7 rfl) ?_
          refine lv_lload hx hb dX0_sumByLarger_138 (lv_at hl 0 rfl) ?_
          refine lv_iload hx hb dX0_sumByLarger_140 (lv_at hl 4 rfl) ?_
          refine pc_V (i := i) (As := [.long (v42_2 - v64_3), .int (fX0_exponentOf i (fX0_sizeOf i x1))]) (rest := [.ref (ad i)]) (r := .long (fX0_sizeFrom i (v42_2 - v64_3) (fX0_exponentOf i (fX0_sizeOf i x1)))) ⟨hx, hb, hml, hown, hts⟩ (c_X0_sizeFrom l ad i hi (v42_2 - v64_3) (fX0_exponentOf i (fX0_sizeOf i x1))) (cwV 2 hts gX0_sumByLarger_X0_sizeFrom rfl rfl rfl hd_X0_sizeFrom ⟨Nat.le_of_ble_eq_true rfl, Nat.le_of_ble_eq_true rfl⟩) hKC hS hi rfl hl.1 rfl (lv_room (Nat.le_of_ble_eq_true rfl)) dX0_sumByLarger_142 ⟨Nat.zero_le _, Nat.zero_le _⟩ ?_
          refine lv_lload_n hx hb dX0_sumByLarger_145 rfl (lv_at hl 8 rfl) ?_
          refine pc_V (i := i) (As := [.long (fX0_sizeFrom i (v42_2 - v64_3) (fX0_exponentOf i (fX0_sizeOf i x1))), .long x1]) (rest := []) (r := .long (fX0_withSideOf i (fX0_sizeFrom i (v42_2 - v64_3) (fX0_exponentOf i (fX0_sizeOf i x1))) x1)) ⟨hx, hb, hml, hown, hts⟩ (c_X0_withSideOf l ad i hi (fX0_sizeFrom i (v42_2 - v64_3) (fX0_exponentOf i (fX0_sizeOf i x1))) x1) (cwV 2 hts gX0_sumByLarger_X0_withSideOf rfl rfl rfl hd_X0_withSideOf ⟨Nat.le_of_ble_eq_true rfl, Nat.le_of_ble_eq_true rfl⟩) hKC hS hi rfl hl.1 rfl (lv_room (Nat.le_of_ble_eq_true rfl)) dX0_sumByLarger_146 ⟨Nat.zero_le _, Nat.zero_le _⟩ ?_
          exact W.lret hx hb hr (fun t ht _ => ⟨congrArg (fun z => Outcome.returned (some (Value.long z))) (by subst e_v42_2 e_v64_3; unfold fX0_sumByLarger; dsimp only; rw [if_neg c_1, if_pos c_4, if_neg c_5, if_neg c_7]), ht⟩) (fun _ h => nomatch h) dX0_sumByLarger_149
        · refine lv_iload hx hb dX0_sumByLarger_125 (lv_at hl 1 rfl) ?_
          refine lv_if_eq (tgt := 134) hx hb dX0_sumByLarger_127 (by decide) (fun _ => ?_) (fun h9 => absurd h9 (by decide))
          refine lv_lconst (v := 0) hx hb dX0_sumByLarger_134 (by decide) ?_
          exact W.lret hx hb hr (fun t ht _ => ⟨congrArg (fun z => Outcome.returned (some (Value.long z))) (by subst e_v42_2 e_v64_3; unfold fX0_sumByLarger; dsimp only; rw [if_neg c_1, if_pos c_4, if_neg c_5, if_pos c_7]), ht⟩) (fun _ h => nomatch h) dX0_sumByLarger_135
    · refine lv_iconst (v := 1) hx hb dX0_sumByLarger_72 (by decide) ?_
      refine lv_goto (tgt := 77) hx hb dX0_sumByLarger_73 (by decide) ?_
      refine lv_lload_n hx hb dX0_sumByLarger_77 rfl (lv_at hl 7 rfl) ?_
      refine lv_lconst (v := 0) hx hb dX0_sumByLarger_78 (by decide) ?_
      refine pl_ge (tgt := 87) hx hb dX0_sumByLarger_79 dX0_sumByLarger_80 (by decide) (fun c_8 => ?_) (fun c_8 => ?_)
      · refine lv_iconst (v := 0) hx hb dX0_sumByLarger_87 (by decide) ?_
        refine lv_icmp_ne (tgt := 95) hx hb dX0_sumByLarger_88 (by decide) (fun _ => ?_) (fun h9 => absurd h9 (by decide))
        refine lv_iconst (v := 0) hx hb dX0_sumByLarger_95 (by decide) ?_
        refine lv_istore (lv' := [(14, .int (0 : Int32)), (12, .long v64_3), (10, .long v42_2), (9, .int (fX0_exponentOf i (fX0_sizeOf i x1))), (7, .long (fX0_sizeOf i x3)), (5, .long (fX0_sizeOf i x1)), (0, .ref (ad i)), (1, .long x1), (3, .long x3)]) hx hb dX0_sumByLarger_96 hl (by decide) rfl (fun ls hl => ?_)
        refine lv_iload hx hb dX0_sumByLarger_98 (lv_at hl 0 rfl) ?_
        refine lv_if_eq (tgt := 111) hx hb dX0_sumByLarger_100 (by decide) (fun _ => ?_) (fun h9 => absurd h9 (by decide))
        refine lv_lload hx hb dX0_sumByLarger_111 (lv_at hl 2 rfl) ?_
        refine lv_lload hx hb dX0_sumByLarger_113 (lv_at hl 1 rfl) ?_
        refine lv_lsub hx hb dX0_sumByLarger_115 ?_
        refine lv_lstore (lv' := [(15, .long (v42_2 - v64_3)), (14, .int (0 : Int32)), (12, .long v64_3), (10, .long v42_2), (9, .int (fX0_exponentOf i (fX0_sizeOf i x1))), (7, .long (fX0_sizeOf i x3)), (5, .long (fX0_sizeOf i x1)), (0, .ref (ad i)), (1, .long x1), (3, .long x3)]) hx hb dX0_sumByLarger_116 hl (by decide) rfl (fun ls hl => ?_)
        refine lv_lload hx hb dX0_sumByLarger_118 (lv_at hl 0 rfl) ?_
        refine lv_lconst (v := 0) hx hb dX0_sumByLarger_120 (by decide) ?_
        refine pl_ne (tgt := 136) hx hb dX0_sumByLarger_121 dX0_sumByLarger_122 (by decide) (fun c_9 => ?_) (fun c_9 => ?_)
        · refine lv_aload_n hx hb dX0_sumByLarger_136 rfl (lv_at hl 7 rfl) ?_
          refine lv_aload_n hx hb dX0_sumByLarger_137 rfl (lv_at hl 7 rfl) ?_
          refine lv_lload hx hb dX0_sumByLarger_138 (lv_at hl 0 rfl) ?_
          refine lv_iload hx hb dX0_sumByLarger_140 (lv_at hl 4 rfl) ?_
          refine pc_V (i := i) (As := [.long (v42_2 - v64_3), .int (fX0_exponentOf i (fX0_sizeOf i x1))]) (rest := [.ref (ad i)]) (r := .long (fX0_sizeFrom i (v42_2 - v64_3) (fX0_exponentOf i (fX0_sizeOf i x1)))) ⟨hx, hb, hml, hown, hts⟩ (c_X0_sizeFrom l ad i hi (v42_2 - v64_3) (fX0_exponentOf i (fX0_sizeOf i x1))) (cwV 2 hts gX0_sumByLarger_X0_sizeFrom rfl rfl rfl hd_X0_sizeFrom ⟨Nat.le_of_ble_eq_true rfl, Nat.le_of_ble_eq_true rfl⟩) hKC hS hi rfl hl.1 rfl (lv_room (Nat.le_of_ble_eq_true rfl)) dX0_sumByLarger_142 ⟨Nat.zero_le _, Nat.zero_le _⟩ ?_
          refine lv_lload_n hx hb dX0_sumByLarger_145 rfl (lv_at hl 8 rfl) ?_
          refine pc_V (i := i) (As := [.long (fX0_sizeFrom i (v42_2 - v64_3) (fX0_exponentOf i (fX0_sizeOf i x1))), .long x1]) (rest := []) (r := .long (fX0_withSideOf i (fX0_sizeFrom i (v42_2 - v64_3) (fX0_exponentOf i (fX0_sizeOf i x1))) x1)) ⟨hx, hb, hml, hown, hts⟩ (c_X0_withSideOf l ad i hi (fX0_sizeFrom i (v42_2 - v64_3) (fX0_exponentOf i (fX0_sizeOf i x1))) x1) (cwV 2 hts gX0_sumByLarger_X0_withSideOf rfl rfl rfl hd_X0_withSideOf ⟨Nat.le_of_ble_eq_true rfl, Nat.le_of_ble_eq_true rfl⟩) hKC hS hi rfl hl.1 rfl (lv_room (Nat.le_of_ble_eq_true rfl)) dX0_sumByLarger_146 ⟨Nat.zero_le _, Nat.zero_le _⟩ ?_
          exact W.lret hx hb hr (fun t ht _ => ⟨congrArg (fun z => Outcome.returned (some (Value.long z))) (by subst e_v42_2 e_v64_3; unfold fX0_sumByLarger; dsimp only; rw [if_neg c_1, if_neg c_4, if_pos c_8, if_neg c_9]), ht⟩) (fun _ h => nomatch h) dX0_sumByLarger_149
        · refine lv_iload hx hb dX0_sumByLarger_125 (lv_at hl 1 rfl) ?_
          refine lv_if_eq (tgt := 134) hx hb dX0_sumByLarger_127 (by decide) (fun _ => ?_) (fun h9 => absurd h9 (by decide))
          refine lv_lconst (v := 0) hx hb dX0_sumByLarger_134 (by decide) ?_
          exact W.lret hx hb hr (fun t ht _ => ⟨congrArg (fun z => Outcome.returned (some (Value.long z))) (by subst e_v42_2 e_v64_3; unfold fX0_sumByLarger; dsimp only; rw [if_neg c_1, if_neg c_4, if_pos c_8, if_pos c_9]), ht⟩) (fun _ h => nomatch h) dX0_sumByLarger_135
      · refine lv_iconst (v := 1) hx hb dX0_sumByLarger_83 (by decide) ?_
        refine lv_goto (tgt := 88) hx hb dX0_sumByLarger_84 (by decide) ?_
        refine lv_icmp_ne (tgt := 95) hx hb dX0_sumByLarger_88 (by decide) (fun h9 => absurd h9 (by decide)) (fun _ => ?_)
        refine lv_iconst (v := 1) hx hb dX0_sumByLarger_91 (by decide) ?_
        refine lv_goto (tgt := 96) hx hb dX0_sumByLarger_92 (by decide) ?_
        refine lv_istore (lv' := [(14, .int (1 : Int32)), (12, .long v64_3), (10, .long v42_2), (9, .int (fX0_exponentOf i (fX0_sizeOf i x1))), (7, .long (fX0_sizeOf i x3)), (5, .long (fX0_sizeOf i x1)), (0, .ref (ad i)), (1, .long x1), (3, .long x3)]) hx hb dX0_sumByLarger_96 hl (by decide) rfl (fun ls hl => ?_)
        refine lv_iload hx hb dX0_sumByLarger_98 (lv_at hl 0 rfl) ?_
        refine lv_if_eq (tgt := 111) hx hb dX0_sumByLarger_100 (by decide) (fun h9 => absurd h9 (by decide)) (fun _ => ?_)
        refine lv_lload hx hb dX0_sumByLarger_103 (lv_at hl 2 rfl) ?_
        refine lv_lload hx hb dX0_sumByLarger_105 (lv_at hl 1 rfl) ?_
        refine lv_ladd hx hb dX0_sumByLarger_107 ?_
        refine lv_goto (tgt := 116) hx hb dX0_sumByLarger_108 (by decide) ?_
        refine lv_lstore (lv' := [(15, .long (v42_2 + v64_3)), (14, .int (1 : Int32)), (12, .long v64_3), (10, .long v42_2), (9, .int (fX0_exponentOf i (fX0_sizeOf i x1))), (7, .long (fX0_sizeOf i x3)), (5, .long (fX0_sizeOf i x1)), (0, .ref (ad i)), (1, .long x1), (3, .long x3)]) hx hb dX0_sumByLarger_116 hl (by decide) rfl (fun ls hl => ?_)
        refine lv_lload hx hb dX0_sumByLarger_118 (lv_at hl 0 rfl) ?_
        refine lv_lconst (v := 0) hx hb dX0_sumByLarger_120 (by decide) ?_
        refine pl_ne (tgt := 136) hx hb dX0_sumByLarger_121 dX0_sumByLarger_122 (by decide) (fun c_10 => ?_) (fun c_10 => ?_)
        · refine lv_aload_n hx hb dX0_sumByLarger_136 rfl (lv_at hl 7 rfl) ?_
          refine lv_aload_n hx hb dX0_sumByLarger_137 rfl (lv_at hl 7 rfl) ?_
          refine lv_lload hx hb dX0_sumByLarger_138 (lv_at hl 0 rfl) ?_
          refine lv_iload hx hb dX0_sumByLarger_140 (lv_at hl 4 rfl) ?_
          refine pc_V (i := i) (As := [.long (v42_2 + v64_3), .int (fX0_exponentOf i (fX0_sizeOf i x1))]) (rest := [.ref (ad i)]) (r := .long (fX0_sizeFrom i (v42_2 + v64_3) (fX0_exponentOf i (fX0_sizeOf i x1)))) ⟨hx, hb, hml, hown, hts⟩ (c_X0_sizeFrom l ad i hi (v42_2 + v64_3) (fX0_exponentOf i (fX0_sizeOf i x1))) (cwV 2 hts gX0_sumByLarger_X0_sizeFrom rfl rfl rfl hd_X0_sizeFrom ⟨Nat.le_of_ble_eq_true rfl, Nat.le_of_ble_eq_true rfl⟩) hKC hS hi rfl hl.1 rfl (lv_room (Nat.le_of_ble_eq_true rfl)) dX0_sumByLarger_142 ⟨Nat.zero_le _, Nat.zero_le _⟩ ?_
          refine lv_lload_n hx hb dX0_sumByLarger_145 rfl (lv_at hl 8 rfl) ?_
          refine pc_V (i := i) (As := [.long (fX0_sizeFrom i (v42_2 + v64_3) (fX0_exponentOf i (fX0_sizeOf i x1))), .long x1]) (rest := []) (r := .long (fX0_withSideOf i (fX0_sizeFrom i (v42_2 + v64_3) (fX0_exponentOf i (fX0_sizeOf i x1))) x1)) ⟨hx, hb, hml, hown, hts⟩ (c_X0_withSideOf l ad i hi (fX0_sizeFrom i (v42_2 + v64_3) (fX0_exponentOf i (fX0_sizeOf i x1))) x1) (cwV 2 hts gX0_sumByLarger_X0_withSideOf rfl rfl rfl hd_X0_withSideOf ⟨Nat.le_of_ble_eq_true rfl, Nat.le_of_ble_eq_true rfl⟩) hKC hS hi rfl hl.1 rfl (lv_room (Nat.le_of_ble_eq_true rfl)) dX0_sumByLarger_146 ⟨Nat.zero_le _, Nat.zero_le _⟩ ?_
          exact W.lret hx hb hr (fun t ht _ => ⟨congrArg (fun z => Outcome.returned (some (Value.long z))) (by subst e_v42_2 e_v64_3; unfold fX0_sumByLarger; dsimp only; rw [if_neg c_1, if_neg c_4, if_neg c_8, if_neg c_10]), ht⟩) (fun _ h => nomatch h) dX0_sumByLarger_149
        · refine lv_iload hx hb dX0_sumByLarger_125 (lv_at hl 1 rfl) ?_
          refine lv_if_eq (tgt := 134) hx hb dX0_sumByLarger_127 (by decide) (fun h9 => absurd h9 (by decide)) (fun _ => ?_)
          refine lv_lload_n hx hb dX0_sumByLarger_130 rfl (lv_at hl 8 rfl) ?_
          refine lv_goto (tgt := 135) hx hb dX0_sumByLarger_131 (by decide) ?_
          exact W.lret hx hb hr (fun t ht _ => ⟨congrArg (fun z => Outcome.returned (some (Value.long z))) (by subst e_v42_2 e_v64_3; unfold fX0_sumByLarger; dsimp only; rw [if_neg c_1, if_neg c_4, if_neg c_8, if_pos c_10]), ht⟩) (fun _ h => nomatch h) dX0_sumByLarger_135
  · refine lv_lload_n hx hb dX0_sumByLarger_17 rfl (lv_at hl 2 rfl) ?_
    exact W.lret hx hb hr (fun t ht _ => ⟨congrArg (fun z => Outcome.returned (some (Value.long z))) (by unfold fX0_sumByLarger; rw [if_pos c_1]), ht⟩) (fun _ h => nomatch h) dX0_sumByLarger_18
def fX0_sum (i : Nat) (x1 : Int64) (x3 : Int64) : Int64 :=
  if (fX0_sizeOf i x3) ≤ (fX0_sizeOf i x1) then
    fX0_sumByLarger i x1 x3
  else
    fX0_sumByLarger i x3 x1
theorem hd_X0_sum : yX0_sum.cls = RX0 ∧ yX0_sum.cls ≠ "java/lang/invoke/MethodHandle" ∧ yX0_sum.cls ≠ "java/lang/invoke/VarHandle" ∧ (parseMethodDescriptor yX0_sum.desc).map (fun d => d.parameters.length) = some 2 := by decide +kernel
set_option maxHeartbeats 4000000 in
set_option maxRecDepth 100000 in
theorem c_X0_sum (l : Launch) (ad : Nat → Nat) (i : Nat) (hi : i < 2) (x1 : Int64) (x3 : Int64) : Met l yX0_sum wsX0_sum ({ frames := 4, cells := 0, slots := 0, locals := 113 }) (PK ad [.ref (ad i), .long x1, .long x3]) (k2_QcV (.long (fX0_sum i x1 x3))) 0 0 (fun _ => False) := by
  refine Met.ofW (cc := cX0_sum) (maxL := 5) (ret := (some .long)) (by decide) rfl ?_
  intro p e s m args below meth c s₁ B hml hv
  obtain ⟨rfl, hKC⟩ := hv
  have hx := B.exec
  have hb := B.bytes
  have hr := B.returns
  have hts := atoms_spec (ws := wsX0_sum) B.pre
  have hown : s.vm.findClass RX0 = some m.cls := findClass_of_methodNamed B.named
  have hlocks := B.notSynchronized
  have hS : va_S (fun _ => False) s.heap s.heap [] := va_S.rf
  have hl := lv_entry ([.ref (ad i), .long x1, .long x3]) (n := 5) (Nat.le_of_ble_eq_true rfl)
  rw [lg_entry_eq]
  generalize (lg_sl ([.ref (ad i), .long x1, .long x3]) ++ List.replicate (5 - (lg_sl ([.ref (ad i), .long x1, .long x3])).length) Slot.unset).toArray = ls at hl ⊢
  have hl : lv_has ls 5 [(0, .ref (ad i)), (1, .long x1), (3, .long x3)] := hl
  refine lv_aload_n hx hb dX0_sum_0 rfl (lv_at hl 0 rfl) ?_
  refine lv_lload_n hx hb dX0_sum_1 rfl (lv_at hl 1 rfl) ?_
  refine pc_V (i := i) (As := [.long x1]) (rest := []) (r := .long (fX0_sizeOf i x1)) ⟨hx, hb, hml, hown, hts⟩ (c_X0_sizeOf l ad i hi x1) (cwV 1 hts gX0_sum_X0_sizeOf rfl rfl rfl hd_X0_sizeOf ⟨Nat.le_of_ble_eq_true rfl, Nat.le_of_ble_eq_true rfl⟩) hKC hS hi rfl hl.1 rfl (lv_room (Nat.le_of_ble_eq_true rfl)) dX0_sum_2 ⟨Nat.zero_le _, Nat.zero_le _⟩ ?_
  refine lv_aload_n hx hb dX0_sum_5 rfl (lv_at hl 0 rfl) ?_
  refine lv_lload_n hx hb dX0_sum_6 rfl (lv_at hl 2 rfl) ?_
  refine pc_V (i := i) (As := [.long x3]) (rest := [.long (fX0_sizeOf i x1)]) (r := .long (fX0_sizeOf i x3)) ⟨hx, hb, hml, hown, hts⟩ (c_X0_sizeOf l ad i hi x3) (cwV 1 hts gX0_sum_X0_sizeOf rfl rfl rfl hd_X0_sizeOf ⟨Nat.le_of_ble_eq_true rfl, Nat.le_of_ble_eq_true rfl⟩) hKC hS hi rfl hl.1 rfl (lv_room (Nat.le_of_ble_eq_true rfl)) dX0_sum_7 ⟨Nat.zero_le _, Nat.zero_le _⟩ ?_
  refine pl_ge (tgt := 23) hx hb dX0_sum_10 dX0_sum_11 (by decide) (fun c_1 => ?_) (fun c_1 => ?_)
  · refine lv_aload_n hx hb dX0_sum_23 rfl (lv_at hl 0 rfl) ?_
    refine lv_lload_n hx hb dX0_sum_24 rfl (lv_at hl 1 rfl) ?_
    refine lv_lload_n hx hb dX0_sum_25 rfl (lv_at hl 2 rfl) ?_
    refine pc_V (i := i) (As := [.long x1, .long x3]) (rest := []) (r := .long (fX0_sumByLarger i x1 x3)) ⟨hx, hb, hml, hown, hts⟩ (c_X0_sumByLarger l ad i hi x1 x3) (cwV 2 hts gX0_sum_X0_sumByLarger rfl rfl rfl hd_X0_sumByLarger ⟨Nat.le_of_ble_eq_true rfl, Nat.le_of_ble_eq_true rfl⟩) hKC hS hi rfl hl.1 rfl (lv_room (Nat.le_of_ble_eq_true rfl)) dX0_sum_26 ⟨Nat.zero_le _, Nat.zero_le _⟩ ?_
    exact W.lret hx hb hr (fun t ht _ => ⟨congrArg (fun z => Outcome.returned (some (Value.long z))) (by unfold fX0_sum; rw [if_pos c_1]), ht⟩) (fun _ h => nomatch h) dX0_sum_29
  · refine lv_aload_n hx hb dX0_sum_14 rfl (lv_at hl 0 rfl) ?_
    refine lv_lload_n hx hb dX0_sum_15 rfl (lv_at hl 2 rfl) ?_
    refine lv_lload_n hx hb dX0_sum_16 rfl (lv_at hl 1 rfl) ?_
    refine pc_V (i := i) (As := [.long x3, .long x1]) (rest := []) (r := .long (fX0_sumByLarger i x3 x1)) ⟨hx, hb, hml, hown, hts⟩ (c_X0_sumByLarger l ad i hi x3 x1) (cwV 2 hts gX0_sum_X0_sumByLarger rfl rfl rfl hd_X0_sumByLarger ⟨Nat.le_of_ble_eq_true rfl, Nat.le_of_ble_eq_true rfl⟩) hKC hS hi rfl hl.1 rfl (lv_room (Nat.le_of_ble_eq_true rfl)) dX0_sum_17 ⟨Nat.zero_le _, Nat.zero_le _⟩ ?_
    refine lv_goto (tgt := 29) hx hb dX0_sum_20 (by decide) ?_
    exact W.lret hx hb hr (fun t ht _ => ⟨congrArg (fun z => Outcome.returned (some (Value.long z))) (by unfold fX0_sum; rw [if_neg c_1]), ht⟩) (fun _ h => nomatch h) dX0_sum_29
end
section
def fX2_tallied (x0 : Int32) (x1 : Int64) (x3 : Int64) : Int64 :=
  if x0 = 0 then
    x3
  else
    if x0 = 1 then
      if x3 < x1 then x1 else x3
    else
      if x0 = 2 then
        if x3 < x1 then x3 else x1
      else
        if x0 = 3 then
          if 0 < x3 then x3 else -x3
        else
          (if 0 < x1 then x1 else -x1) - (if 0 < x3 then x3 else -x3)
theorem hd_X2_tallied : yX2_tallied.cls ≠ "java/lang/invoke/MethodHandle" ∧ yX2_tallied.cls ≠ "java/lang/invoke/VarHandle" ∧ (parseMethodDescriptor yX2_tallied.desc).map (fun d => d.parameters.length) = some 3 := by decide +kernel
set_option maxHeartbeats 4000000 in
set_option maxRecDepth 100000 in
theorem c_X2_tallied (l : Launch) (x0 : Int32) (x1 : Int64) (x3 : Int64) : Met l yX2_tallied wsX2_tallied ({ frames := 1, cells := 0, slots := 0, locals := 15 }) (P0 [.int x0, .long x1, .long x3]) (k2_QcV (.long (fX2_tallied x0 x1 x3))) 0 0 (fun _ => False) := by
  refine Met.ofW (cc := cX2_tallied) (maxL := 5) (ret := (some .long)) (by decide) rfl ?_
  intro p e s m args below meth c s₁ B hml hv
  have hv2 : args = _ := hv
  subst hv2
  have hx := B.exec
  have hb := B.bytes
  have hr := B.returns
  have hts := atoms_spec (ws := wsX2_tallied) B.pre
  have hown : s.vm.findClass RX2 = some m.cls := findClass_of_methodNamed B.named
  have hlocks := B.notSynchronized
  have hl := lv_entry ([.int x0, .long x1, .long x3]) (n := 5) (Nat.le_of_ble_eq_true rfl)
  rw [lg_entry_eq]
  generalize (lg_sl ([.int x0, .long x1, .long x3]) ++ List.replicate (5 - (lg_sl ([.int x0, .long x1, .long x3])).length) Slot.unset).toArray = ls at hl ⊢
  have hl : lv_has ls 5 [(0, .int x0), (1, .long x1), (3, .long x3)] := hl
  refine lv_iload_n hx hb dX2_tallied_0 rfl (lv_at hl 0 rfl) ?_
  by_cases c_1 : x0 = 0
  · refine lv_tableIn (tgt := 32) (off := 31) hx hb dX2_tallied_1 (by rw [c_1]; decide) (by rw [c_1]; decide) (by rw [c_1]; rfl) (by decide) ?_
    refine lv_lload_n hx hb dX2_tallied_32 rfl (lv_at hl 2 rfl) ?_
    exact W.lret hx hb hr (fun t ht _ => ⟨congrArg (fun z => Outcome.returned (some (Value.long z))) (by unfold fX2_tallied; rw [if_pos c_1]), ht⟩) (fun _ h => nomatch h) dX2_tallied_33
  · by_cases c_2 : x0 = 1
    · refine lv_tableIn (tgt := 34) (off := 33) hx hb dX2_tallied_1 (by rw [c_2]; decide) (by rw [c_2]; decide) (by rw [c_2]; rfl) (by decide) ?_
      refine lv_lload_n hx hb dX2_tallied_34 rfl (lv_at hl 1 rfl) ?_
      refine lv_lload_n hx hb dX2_tallied_35 rfl (lv_at hl 2 rfl) ?_
      refine va_mmax_long hx hb (hml.trans hl.1.symm) hown (hts (.methodLink RX2 133 Lib.MathLoose.max_long.x) (by decide +kernel)) (hts (.static Lib.MathLoose.max_long.x) (by decide +kernel)) (hts (.initialized "java/lang/Math") (by decide +kernel)) (hts (.code Lib.MathLoose.max_long.x Lib.MathLoose.max_long.code 4 (some .long)) (by decide +kernel)) (Nat.le_of_ble_eq_true rfl) (Nat.le_of_ble_eq_true rfl) (Nat.zero_le _) (Nat.zero_le _) dX2_tallied_36 ?_
      exact W.lret hx hb hr (fun t ht _ => ⟨congrArg (fun z => Outcome.returned (some (Value.long z))) (by unfold fX2_tallied; rw [if_neg c_1, if_pos c_2]), ht⟩) (fun _ h => nomatch h) dX2_tallied_39
    · by_cases c_3 : x0 = 2
      · refine lv_tableIn (tgt := 40) (off := 39) hx hb dX2_tallied_1 (by rw [c_3]; decide) (by rw [c_3]; decide) (by rw [c_3]; rfl) (by decide) ?_
        refine lv_lload_n hx hb dX2_tallied_40 rfl (lv_at hl 1 rfl) ?_
        refine lv_lload_n hx hb dX2_tallied_41 rfl (lv_at hl 2 rfl) ?_
        refine va_mmin_long hx hb (hml.trans hl.1.symm) hown (hts (.methodLink RX2 128 Lib.MathLoose.min_long.x) (by decide +kernel)) (hts (.static Lib.MathLoose.min_long.x) (by decide +kernel)) (hts (.initialized "java/lang/Math") (by decide +kernel)) (hts (.code Lib.MathLoose.min_long.x Lib.MathLoose.min_long.code 4 (some .long)) (by decide +kernel)) (Nat.le_of_ble_eq_true rfl) (Nat.le_of_ble_eq_true rfl) (Nat.zero_le _) (Nat.zero_le _) dX2_tallied_42 ?_
        exact W.lret hx hb hr (fun t ht _ => ⟨congrArg (fun z => Outcome.returned (some (Value.long z))) (by unfold fX2_tallied; rw [if_neg c_1, if_neg c_2, if_pos c_3]), ht⟩) (fun _ h => nomatch h) dX2_tallied_45
      · by_cases c_4 : x0 = 3
        · refine lv_tableIn (tgt := 46) (off := 45) hx hb dX2_tallied_1 (by rw [c_4]; decide) (by rw [c_4]; decide) (by rw [c_4]; rfl) (by decide) ?_
          refine lv_lload_n hx hb dX2_tallied_46 rfl (lv_at hl 2 rfl) ?_
          refine va_mabs_long hx hb (hml.trans hl.1.symm) hown (hts (.methodLink RX2 175 Lib.MathLoose.abs_long.x) (by decide +kernel)) (hts (.static Lib.MathLoose.abs_long.x) (by decide +kernel)) (hts (.initialized "java/lang/Math") (by decide +kernel)) (hts (.code Lib.MathLoose.abs_long.x Lib.MathLoose.abs_long.code 2 (some .long)) (by decide +kernel)) (Nat.le_of_ble_eq_true rfl) (Nat.le_of_ble_eq_true rfl) (Nat.zero_le _) (Nat.zero_le _) dX2_tallied_47 ?_
          exact W.lret hx hb hr (fun t ht _ => ⟨congrArg (fun z => Outcome.returned (some (Value.long z))) (by unfold fX2_tallied; rw [if_neg c_1, if_neg c_2, if_neg c_3, if_pos c_4]), ht⟩) (fun _ h => nomatch h) dX2_tallied_50
        · refine lv_tableOut (tgt := 51) hx hb dX2_tallied_1 (by have h0 := lv_neT c_1 (a := 0) rfl; have h1 := lv_neT c_2 (a := 1) rfl; have h2 := lv_neT c_3 (a := 2) rfl; have h3 := lv_neT c_4 (a := 3) rfl; omega) (by decide) ?_
          refine lv_lload_n hx hb dX2_tallied_51 rfl (lv_at hl 1 rfl) ?_
          refine va_mabs_long hx hb (hml.trans hl.1.symm) hown (hts (.methodLink RX2 175 Lib.MathLoose.abs_long.x) (by decide +kernel)) (hts (.static Lib.MathLoose.abs_long.x) (by decide +kernel)) (hts (.initialized "java/lang/Math") (by decide +kernel)) (hts (.code Lib.MathLoose.abs_long.x Lib.MathLoose.abs_long.code 2 (some .long)) (by decide +kernel)) (Nat.le_of_ble_eq_true rfl) (Nat.le_of_ble_eq_true rfl) (Nat.zero_le _) (Nat.zero_le _) dX2_tallied_52 ?_
          refine lv_lload_n hx hb dX2_tallied_55 rfl (lv_at hl 2 rfl) ?_
          refine va_mabs_long hx hb (hml.trans hl.1.symm) hown (hts (.methodLink RX2 175 Lib.MathLoose.abs_long.x) (by decide +kernel)) (hts (.static Lib.MathLoose.abs_long.x) (by decide +kernel)) (hts (.initialized "java/lang/Math") (by decide +kernel)) (hts (.code Lib.MathLoose.abs_long.x Lib.MathLoose.abs_long.code 2 (some .long)) (by decide +kernel)) (Nat.le_of_ble_eq_true rfl) (Nat.le_of_ble_eq_true rfl) (Nat.zero_le _) (Nat.zero_le _) dX2_tallied_56 ?_
          refine lv_lsub hx hb dX2_tallied_59 ?_
          exact W.lret hx hb hr (fun t ht _ => ⟨congrArg (fun z => Outcome.returned (some (Value.long z))) (by unfold fX2_tallied; rw [if_neg c_1, if_neg c_2, if_neg c_3, if_neg c_4]), ht⟩) (fun _ h => nomatch h) dX2_tallied_60
def fX3_own (x0 : Int32) (x1 : Int64) : Int64 :=
  if x0 = 0 then
    x1.toInt32.toInt64
  else
    x1
theorem hd_X3_own : yX3_own.cls ≠ "java/lang/invoke/MethodHandle" ∧ yX3_own.cls ≠ "java/lang/invoke/VarHandle" ∧ (parseMethodDescriptor yX3_own.desc).map (fun d => d.parameters.length) = some 2 := by decide +kernel
set_option maxHeartbeats 4000000 in
set_option maxRecDepth 100000 in
theorem c_X3_own (l : Launch) (x0 : Int32) (x1 : Int64) : Met l yX3_own wsX3_own ({ frames := 0, cells := 0, slots := 0, locals := 0 }) (P0 [.int x0, .long x1]) (k2_QcV (.long (fX3_own x0 x1))) 0 0 (fun _ => False) := by
  refine Met.ofW (cc := cX3_own) (maxL := 3) (ret := (some .long)) (by decide) rfl ?_
  intro p e s m args below meth c s₁ B hml hv
  have hv2 : args = _ := hv
  subst hv2
  have hx := B.exec
  have hb := B.bytes
  have hr := B.returns
  have hts := atoms_spec (ws := wsX3_own) B.pre
  have hown : s.vm.findClass RX3 = some m.cls := findClass_of_methodNamed B.named
  have hlocks := B.notSynchronized
  have hl := lv_entry ([.int x0, .long x1]) (n := 3) (Nat.le_of_ble_eq_true rfl)
  rw [lg_entry_eq]
  generalize (lg_sl ([.int x0, .long x1]) ++ List.replicate (3 - (lg_sl ([.int x0, .long x1])).length) Slot.unset).toArray = ls at hl ⊢
  have hl : lv_has ls 3 [(0, .int x0), (1, .long x1)] := hl
  refine lv_iload_n hx hb dX3_own_0 rfl (lv_at hl 0 rfl) ?_
  refine lv_if_eq (tgt := 8) hx hb dX3_own_1 (by decide) (fun c_1 => ?_) (fun c_1 => ?_)
  · refine lv_lload_n hx hb dX3_own_8 rfl (lv_at hl 1 rfl) ?_
    refine lv_l2i hx hb dX3_own_9 rfl ?_
    refine lv_i2l hx hb dX3_own_10 rfl ?_
    exact W.lret hx hb hr (fun t ht _ => ⟨congrArg (fun z => Outcome.returned (some (Value.long z))) (by unfold fX3_own; rw [if_pos c_1]), ht⟩) (fun _ h => nomatch h) dX3_own_11
  · refine lv_lload_n hx hb dX3_own_4 rfl (lv_at hl 1 rfl) ?_
    refine lv_goto (tgt := 11) hx hb dX3_own_5 (by decide) ?_
    exact W.lret hx hb hr (fun t ht _ => ⟨congrArg (fun z => Outcome.returned (some (Value.long z))) (by unfold fX3_own; rw [if_neg c_1]), ht⟩) (fun _ h => nomatch h) dX3_own_11
def fX3_sizeOf (x0 : Int32) (x1 : Int64) : Int64 :=
  if x0 = 0 then
    x1 &&& (2147483647 : Int64)
  else
    x1 &&& (9223372036854775807 : Int64)
theorem hd_X3_sizeOf : yX3_sizeOf.cls ≠ "java/lang/invoke/MethodHandle" ∧ yX3_sizeOf.cls ≠ "java/lang/invoke/VarHandle" ∧ (parseMethodDescriptor yX3_sizeOf.desc).map (fun d => d.parameters.length) = some 2 := by decide +kernel
set_option maxHeartbeats 4000000 in
set_option maxRecDepth 100000 in
theorem c_X3_sizeOf (l : Launch) (x0 : Int32) (x1 : Int64) : Met l yX3_sizeOf wsX3_sizeOf ({ frames := 0, cells := 0, slots := 0, locals := 0 }) (P0 [.int x0, .long x1]) (k2_QcV (.long (fX3_sizeOf x0 x1))) 0 0 (fun _ => False) := by
  refine Met.ofW (cc := cX3_sizeOf) (maxL := 3) (ret := (some .long)) (by decide) rfl ?_
  intro p e s m args below meth c s₁ B hml hv
  have hv2 : args = _ := hv
  subst hv2
  have hx := B.exec
  have hb := B.bytes
  have hr := B.returns
  have hts := atoms_spec (ws := wsX3_sizeOf) B.pre
  have hown : s.vm.findClass RX3 = some m.cls := findClass_of_methodNamed B.named
  have hlocks := B.notSynchronized
  have hl := lv_entry ([.int x0, .long x1]) (n := 3) (Nat.le_of_ble_eq_true rfl)
  rw [lg_entry_eq]
  generalize (lg_sl ([.int x0, .long x1]) ++ List.replicate (3 - (lg_sl ([.int x0, .long x1])).length) Slot.unset).toArray = ls at hl ⊢
  have hl : lv_has ls 3 [(0, .int x0), (1, .long x1)] := hl
  refine lv_lload_n hx hb dX3_sizeOf_0 rfl (lv_at hl 1 rfl) ?_
  refine lv_iload_n hx hb dX3_sizeOf_1 rfl (lv_at hl 0 rfl) ?_
  refine lv_if_eq (tgt := 11) hx hb dX3_sizeOf_2 (by decide) (fun c_1 => ?_) (fun c_1 => ?_)
  · refine lv_ldc2 (v := (2147483647)) hx hb hown (hts (.constantLong RX3 23 (2147483647)) (by decide +kernel)) dX3_sizeOf_11 ?_
    refine lv_land hx hb dX3_sizeOf_14 ?_
    exact W.lret hx hb hr (fun t ht _ => ⟨congrArg (fun z => Outcome.returned (some (Value.long z))) (by unfold fX3_sizeOf; rw [if_pos c_1]), ht⟩) (fun _ h => nomatch h) dX3_sizeOf_15
  · refine lv_ldc2 (v := (9223372036854775807)) hx hb hown (hts (.constantLong RX3 21 (9223372036854775807)) (by decide +kernel)) dX3_sizeOf_5 ?_
    refine lv_goto (tgt := 14) hx hb dX3_sizeOf_8 (by decide) ?_
    refine lv_land hx hb dX3_sizeOf_14 ?_
    exact W.lret hx hb hr (fun t ht _ => ⟨congrArg (fun z => Outcome.returned (some (Value.long z))) (by unfold fX3_sizeOf; rw [if_neg c_1]), ht⟩) (fun _ h => nomatch h) dX3_sizeOf_15
def fX3_isNumber (x0 : Int32) (x1 : Int64) : Int32 :=
  if x0 = 0 then
    if (2139095040 : Int64) < (fX3_sizeOf x0 x1) then
      (0 : Int32)
    else
      (1 : Int32)
  else
    if (9218868437227405312 : Int64) < (fX3_sizeOf x0 x1) then
      (0 : Int32)
    else
      (1 : Int32)
theorem hd_X3_isNumber : yX3_isNumber.cls ≠ "java/lang/invoke/MethodHandle" ∧ yX3_isNumber.cls ≠ "java/lang/invoke/VarHandle" ∧ (parseMethodDescriptor yX3_isNumber.desc).map (fun d => d.parameters.length) = some 2 := by decide +kernel
set_option maxHeartbeats 4000000 in
set_option maxRecDepth 100000 in
theorem c_X3_isNumber (l : Launch) (x0 : Int32) (x1 : Int64) : Met l yX3_isNumber wsX3_isNumber ({ frames := 1, cells := 0, slots := 0, locals := 22 }) (P0 [.int x0, .long x1]) (k2_QcV (.int (fX3_isNumber x0 x1))) 0 0 (fun _ => False) := by
  refine Met.ofW (cc := cX3_isNumber) (maxL := 3) (ret := (some .boolean)) (by decide) rfl ?_
  intro p e s m args below meth c s₁ B hml hv
  have hv2 : args = _ := hv
  subst hv2
  have hx := B.exec
  have hb := B.bytes
  have hr := B.returns
  have hts := atoms_spec (ws := wsX3_isNumber) B.pre
  have hown : s.vm.findClass RX3 = some m.cls := findClass_of_methodNamed B.named
  have hlocks := B.notSynchronized
  have hl := lv_entry ([.int x0, .long x1]) (n := 3) (Nat.le_of_ble_eq_true rfl)
  rw [lg_entry_eq]
  generalize (lg_sl ([.int x0, .long x1]) ++ List.replicate (3 - (lg_sl ([.int x0, .long x1])).length) Slot.unset).toArray = ls at hl ⊢
  have hl : lv_has ls 3 [(0, .int x0), (1, .long x1)] := hl
  refine lv_iload_n hx hb dX3_isNumber_0 rfl (lv_at hl 0 rfl) ?_
  refine lv_lload_n hx hb dX3_isNumber_1 rfl (lv_at hl 1 rfl) ?_
  refine pc_0 (As := [.int x0, .long x1]) (rest := []) (r := .long (fX3_sizeOf x0 x1)) ⟨hx, hb, hml, hown, hts⟩ (c_X3_sizeOf l x0 x1) (va_cwS 2 hts gX3_isNumber_X3_sizeOf rfl rfl rfl hd_X3_sizeOf ⟨Nat.le_of_ble_eq_true rfl, Nat.le_of_ble_eq_true rfl⟩) rfl hl.1 rfl (lv_room (Nat.le_of_ble_eq_true rfl)) dX3_isNumber_2 ⟨Nat.zero_le _, Nat.zero_le _⟩ ?_
  refine lv_iload_n hx hb dX3_isNumber_5 rfl (lv_at hl 0 rfl) ?_
  refine lv_if_eq (tgt := 15) hx hb dX3_isNumber_6 (by decide) (fun c_1 => ?_) (fun c_1 => ?_)
  · refine lv_ldc2 (v := (2139095040)) hx hb hown (hts (.constantLong RX3 31 (2139095040)) (by decide +kernel)) dX3_isNumber_15 ?_
    refine pl_gt (tgt := 26) hx hb dX3_isNumber_18 dX3_isNumber_19 (by decide) (fun c_2 => ?_) (fun c_2 => ?_)
    · refine lv_iconst (v := 0) hx hb dX3_isNumber_26 (by decide) ?_
      exact W.zret hx hb hr (by decide) (fun t ht _ => ⟨congrArg (fun z => Outcome.returned (some (Value.int z))) (by unfold fX3_isNumber; rw [if_pos c_1, if_pos c_2]), ht⟩) (fun _ h => nomatch h) dX3_isNumber_27
    · refine lv_iconst (v := 1) hx hb dX3_isNumber_22 (by decide) ?_
      refine lv_goto (tgt := 27) hx hb dX3_isNumber_23 (by decide) ?_
      exact W.zret hx hb hr (by decide) (fun t ht _ => ⟨congrArg (fun z => Outcome.returned (some (Value.int z))) (by unfold fX3_isNumber; rw [if_pos c_1, if_neg c_2]), ht⟩) (fun _ h => nomatch h) dX3_isNumber_27
  · refine lv_ldc2 (v := (9218868437227405312)) hx hb hown (hts (.constantLong RX3 29 (9218868437227405312)) (by decide +kernel)) dX3_isNumber_9 ?_
    refine lv_goto (tgt := 18) hx hb dX3_isNumber_12 (by decide) ?_
    refine pl_gt (tgt := 26) hx hb dX3_isNumber_18 dX3_isNumber_19 (by decide) (fun c_3 => ?_) (fun c_3 => ?_)
    · refine lv_iconst (v := 0) hx hb dX3_isNumber_26 (by decide) ?_
      exact W.zret hx hb hr (by decide) (fun t ht _ => ⟨congrArg (fun z => Outcome.returned (some (Value.int z))) (by unfold fX3_isNumber; rw [if_neg c_1, if_pos c_3]), ht⟩) (fun _ h => nomatch h) dX3_isNumber_27
    · refine lv_iconst (v := 1) hx hb dX3_isNumber_22 (by decide) ?_
      refine lv_goto (tgt := 27) hx hb dX3_isNumber_23 (by decide) ?_
      exact W.zret hx hb hr (by decide) (fun t ht _ => ⟨congrArg (fun z => Outcome.returned (some (Value.int z))) (by unfold fX3_isNumber; rw [if_neg c_1, if_neg c_3]), ht⟩) (fun _ h => nomatch h) dX3_isNumber_27
def fX3_isEndless (x0 : Int32) (x1 : Int64) : Int32 :=
  if x0 = 0 then
    if (fX3_sizeOf x0 x1) = (2139095040 : Int64) then
      (1 : Int32)
    else
      (0 : Int32)
  else
    if (fX3_sizeOf x0 x1) = (9218868437227405312 : Int64) then
      (1 : Int32)
    else
      (0 : Int32)
theorem hd_X3_isEndless : yX3_isEndless.cls ≠ "java/lang/invoke/MethodHandle" ∧ yX3_isEndless.cls ≠ "java/lang/invoke/VarHandle" ∧ (parseMethodDescriptor yX3_isEndless.desc).map (fun d => d.parameters.length) = some 2 := by decide +kernel
set_option maxHeartbeats 4000000 in
set_option maxRecDepth 100000 in
theorem c_X3_isEndless (l : Launch) (x0 : Int32) (x1 : Int64) : Met l yX3_isEndless wsX3_isEndless ({ frames := 1, cells := 0, slots := 0, locals := 22 }) (P0 [.int x0, .long x1]) (k2_QcV (.int (fX3_isEndless x0 x1))) 0 0 (fun _ => False) := by
  refine Met.ofW (cc := cX3_isEndless) (maxL := 3) (ret := (some .boolean)) (by decide) rfl ?_
  intro p e s m args below meth c s₁ B hml hv
  have hv2 : args = _ := hv
  subst hv2
  have hx := B.exec
  have hb := B.bytes
  have hr := B.returns
  have hts := atoms_spec (ws := wsX3_isEndless) B.pre
  have hown : s.vm.findClass RX3 = some m.cls := findClass_of_methodNamed B.named
  have hlocks := B.notSynchronized
  have hl := lv_entry ([.int x0, .long x1]) (n := 3) (Nat.le_of_ble_eq_true rfl)
  rw [lg_entry_eq]
  generalize (lg_sl ([.int x0, .long x1]) ++ List.replicate (3 - (lg_sl ([.int x0, .long x1])).length) Slot.unset).toArray = ls at hl ⊢
  have hl : lv_has ls 3 [(0, .int x0), (1, .long x1)] := hl
  refine lv_iload_n hx hb dX3_isEndless_0 rfl (lv_at hl 0 rfl) ?_
  refine lv_lload_n hx hb dX3_isEndless_1 rfl (lv_at hl 1 rfl) ?_
  refine pc_0 (As := [.int x0, .long x1]) (rest := []) (r := .long (fX3_sizeOf x0 x1)) ⟨hx, hb, hml, hown, hts⟩ (c_X3_sizeOf l x0 x1) (va_cwS 2 hts gX3_isEndless_X3_sizeOf rfl rfl rfl hd_X3_sizeOf ⟨Nat.le_of_ble_eq_true rfl, Nat.le_of_ble_eq_true rfl⟩) rfl hl.1 rfl (lv_room (Nat.le_of_ble_eq_true rfl)) dX3_isEndless_2 ⟨Nat.zero_le _, Nat.zero_le _⟩ ?_
  refine lv_iload_n hx hb dX3_isEndless_5 rfl (lv_at hl 0 rfl) ?_
  refine lv_if_eq (tgt := 15) hx hb dX3_isEndless_6 (by decide) (fun c_1 => ?_) (fun c_1 => ?_)
  · refine lv_ldc2 (v := (2139095040)) hx hb hown (hts (.constantLong RX3 31 (2139095040)) (by decide +kernel)) dX3_isEndless_15 ?_
    refine pl_ne (tgt := 26) hx hb dX3_isEndless_18 dX3_isEndless_19 (by decide) (fun c_2 => ?_) (fun c_2 => ?_)
    · refine lv_iconst (v := 0) hx hb dX3_isEndless_26 (by decide) ?_
      exact W.zret hx hb hr (by decide) (fun t ht _ => ⟨congrArg (fun z => Outcome.returned (some (Value.int z))) (by unfold fX3_isEndless; rw [if_pos c_1, if_neg c_2]), ht⟩) (fun _ h => nomatch h) dX3_isEndless_27
    · refine lv_iconst (v := 1) hx hb dX3_isEndless_22 (by decide) ?_
      refine lv_goto (tgt := 27) hx hb dX3_isEndless_23 (by decide) ?_
      exact W.zret hx hb hr (by decide) (fun t ht _ => ⟨congrArg (fun z => Outcome.returned (some (Value.int z))) (by unfold fX3_isEndless; rw [if_pos c_1, if_pos c_2]), ht⟩) (fun _ h => nomatch h) dX3_isEndless_27
  · refine lv_ldc2 (v := (9218868437227405312)) hx hb hown (hts (.constantLong RX3 29 (9218868437227405312)) (by decide +kernel)) dX3_isEndless_9 ?_
    refine lv_goto (tgt := 18) hx hb dX3_isEndless_12 (by decide) ?_
    refine pl_ne (tgt := 26) hx hb dX3_isEndless_18 dX3_isEndless_19 (by decide) (fun c_3 => ?_) (fun c_3 => ?_)
    · refine lv_iconst (v := 0) hx hb dX3_isEndless_26 (by decide) ?_
      exact W.zret hx hb hr (by decide) (fun t ht _ => ⟨congrArg (fun z => Outcome.returned (some (Value.int z))) (by unfold fX3_isEndless; rw [if_neg c_1, if_neg c_3]), ht⟩) (fun _ h => nomatch h) dX3_isEndless_27
    · refine lv_iconst (v := 1) hx hb dX3_isEndless_22 (by decide) ?_
      refine lv_goto (tgt := 27) hx hb dX3_isEndless_23 (by decide) ?_
      exact W.zret hx hb hr (by decide) (fun t ht _ => ⟨congrArg (fun z => Outcome.returned (some (Value.int z))) (by unfold fX3_isEndless; rw [if_neg c_1, if_pos c_3]), ht⟩) (fun _ h => nomatch h) dX3_isEndless_27
def fX3_isNought (x0 : Int32) (x1 : Int64) : Int32 :=
  if (fX3_sizeOf x0 x1) = (0 : Int64) then
    (1 : Int32)
  else
    (0 : Int32)
theorem hd_X3_isNought : yX3_isNought.cls ≠ "java/lang/invoke/MethodHandle" ∧ yX3_isNought.cls ≠ "java/lang/invoke/VarHandle" ∧ (parseMethodDescriptor yX3_isNought.desc).map (fun d => d.parameters.length) = some 2 := by decide +kernel
set_option maxHeartbeats 4000000 in
set_option maxRecDepth 100000 in
theorem c_X3_isNought (l : Launch) (x0 : Int32) (x1 : Int64) : Met l yX3_isNought wsX3_isNought ({ frames := 1, cells := 0, slots := 0, locals := 22 }) (P0 [.int x0, .long x1]) (k2_QcV (.int (fX3_isNought x0 x1))) 0 0 (fun _ => False) := by
  refine Met.ofW (cc := cX3_isNought) (maxL := 3) (ret := (some .boolean)) (by decide) rfl ?_
  intro p e s m args below meth c s₁ B hml hv
  have hv2 : args = _ := hv
  subst hv2
  have hx := B.exec
  have hb := B.bytes
  have hr := B.returns
  have hts := atoms_spec (ws := wsX3_isNought) B.pre
  have hown : s.vm.findClass RX3 = some m.cls := findClass_of_methodNamed B.named
  have hlocks := B.notSynchronized
  have hl := lv_entry ([.int x0, .long x1]) (n := 3) (Nat.le_of_ble_eq_true rfl)
  rw [lg_entry_eq]
  generalize (lg_sl ([.int x0, .long x1]) ++ List.replicate (3 - (lg_sl ([.int x0, .long x1])).length) Slot.unset).toArray = ls at hl ⊢
  have hl : lv_has ls 3 [(0, .int x0), (1, .long x1)] := hl
  refine lv_iload_n hx hb dX3_isNought_0 rfl (lv_at hl 0 rfl) ?_
  refine lv_lload_n hx hb dX3_isNought_1 rfl (lv_at hl 1 rfl) ?_
  refine pc_0 (As := [.int x0, .long x1]) (rest := []) (r := .long (fX3_sizeOf x0 x1)) ⟨hx, hb, hml, hown, hts⟩ (c_X3_sizeOf l x0 x1) (va_cwS 2 hts gX3_isNought_X3_sizeOf rfl rfl rfl hd_X3_sizeOf ⟨Nat.le_of_ble_eq_true rfl, Nat.le_of_ble_eq_true rfl⟩) rfl hl.1 rfl (lv_room (Nat.le_of_ble_eq_true rfl)) dX3_isNought_2 ⟨Nat.zero_le _, Nat.zero_le _⟩ ?_
  refine lv_lconst (v := 0) hx hb dX3_isNought_5 (by decide) ?_
  refine pl_ne (tgt := 14) hx hb dX3_isNought_6 dX3_isNought_7 (by decide) (fun c_1 => ?_) (fun c_1 => ?_)
  · refine lv_iconst (v := 0) hx hb dX3_isNought_14 (by decide) ?_
    exact W.zret hx hb hr (by decide) (fun t ht _ => ⟨congrArg (fun z => Outcome.returned (some (Value.int z))) (by unfold fX3_isNought; rw [if_neg c_1]), ht⟩) (fun _ h => nomatch h) dX3_isNought_15
  · refine lv_iconst (v := 1) hx hb dX3_isNought_10 (by decide) ?_
    refine lv_goto (tgt := 15) hx hb dX3_isNought_11 (by decide) ?_
    exact W.zret hx hb hr (by decide) (fun t ht _ => ⟨congrArg (fun z => Outcome.returned (some (Value.int z))) (by unfold fX3_isNought; rw [if_pos c_1]), ht⟩) (fun _ h => nomatch h) dX3_isNought_15
def fX3_rank (x0 : Int32) (x1 : Int64) : Int64 :=
  if (0 : Int64) ≤ x1 then
    x1
  else
    (-1 : Int64) - (fX3_sizeOf x0 x1)
theorem hd_X3_rank : yX3_rank.cls ≠ "java/lang/invoke/MethodHandle" ∧ yX3_rank.cls ≠ "java/lang/invoke/VarHandle" ∧ (parseMethodDescriptor yX3_rank.desc).map (fun d => d.parameters.length) = some 2 := by decide +kernel
set_option maxHeartbeats 4000000 in
set_option maxRecDepth 100000 in
theorem c_X3_rank (l : Launch) (x0 : Int32) (x1 : Int64) : Met l yX3_rank wsX3_rank ({ frames := 1, cells := 0, slots := 0, locals := 22 }) (P0 [.int x0, .long x1]) (k2_QcV (.long (fX3_rank x0 x1))) 0 0 (fun _ => False) := by
  refine Met.ofW (cc := cX3_rank) (maxL := 3) (ret := (some .long)) (by decide) rfl ?_
  intro p e s m args below meth c s₁ B hml hv
  have hv2 : args = _ := hv
  subst hv2
  have hx := B.exec
  have hb := B.bytes
  have hr := B.returns
  have hts := atoms_spec (ws := wsX3_rank) B.pre
  have hown : s.vm.findClass RX3 = some m.cls := findClass_of_methodNamed B.named
  have hlocks := B.notSynchronized
  have hl := lv_entry ([.int x0, .long x1]) (n := 3) (Nat.le_of_ble_eq_true rfl)
  rw [lg_entry_eq]
  generalize (lg_sl ([.int x0, .long x1]) ++ List.replicate (3 - (lg_sl ([.int x0, .long x1])).length) Slot.unset).toArray = ls at hl ⊢
  have hl : lv_has ls 3 [(0, .int x0), (1, .long x1)] := hl
  refine lv_lload_n hx hb dX3_rank_0 rfl (lv_at hl 1 rfl) ?_
  refine lv_lconst (v := 0) hx hb dX3_rank_1 (by decide) ?_
  refine pl_ge (tgt := 18) hx hb dX3_rank_2 dX3_rank_3 (by decide) (fun c_1 => ?_) (fun c_1 => ?_)
  · refine lv_lload_n hx hb dX3_rank_18 rfl (lv_at hl 1 rfl) ?_
    exact W.lret hx hb hr (fun t ht _ => ⟨congrArg (fun z => Outcome.returned (some (Value.long z))) (by unfold fX3_rank; rw [if_pos c_1]), ht⟩) (fun _ h => nomatch h) dX3_rank_19
  · refine lv_ldc2 (v := (-1)) hx hb hown (hts (.constantLong RX3 33 (-1)) (by decide +kernel)) dX3_rank_6 ?_
    refine lv_iload_n hx hb dX3_rank_9 rfl (lv_at hl 0 rfl) ?_
    refine lv_lload_n hx hb dX3_rank_10 rfl (lv_at hl 1 rfl) ?_
    refine pc_0 (As := [.int x0, .long x1]) (rest := [.long (-1 : Int64)]) (r := .long (fX3_sizeOf x0 x1)) ⟨hx, hb, hml, hown, hts⟩ (c_X3_sizeOf l x0 x1) (va_cwS 2 hts gX3_rank_X3_sizeOf rfl rfl rfl hd_X3_sizeOf ⟨Nat.le_of_ble_eq_true rfl, Nat.le_of_ble_eq_true rfl⟩) rfl hl.1 rfl (lv_room (Nat.le_of_ble_eq_true rfl)) dX3_rank_11 ⟨Nat.zero_le _, Nat.zero_le _⟩ ?_
    refine lv_lsub hx hb dX3_rank_14 ?_
    refine lv_goto (tgt := 19) hx hb dX3_rank_15 (by decide) ?_
    exact W.lret hx hb hr (fun t ht _ => ⟨congrArg (fun z => Outcome.returned (some (Value.long z))) (by unfold fX3_rank; rw [if_neg c_1]), ht⟩) (fun _ h => nomatch h) dX3_rank_19
def fX3_sided (x0 : Int32) (x1 : Int64) (x3 : Int32) : Int64 :=
  if x3 = 0 then
    x1
  else
    if x0 = 0 then
      x1 - (2147483648 : Int64)
    else
      x1 ||| (-9223372036854775808 : Int64)
theorem hd_X3_sided : yX3_sided.cls ≠ "java/lang/invoke/MethodHandle" ∧ yX3_sided.cls ≠ "java/lang/invoke/VarHandle" ∧ (parseMethodDescriptor yX3_sided.desc).map (fun d => d.parameters.length) = some 3 := by decide +kernel
set_option maxHeartbeats 4000000 in
set_option maxRecDepth 100000 in
theorem c_X3_sided (l : Launch) (x0 : Int32) (x1 : Int64) (x3 : Int32) : Met l yX3_sided wsX3_sided ({ frames := 0, cells := 0, slots := 0, locals := 0 }) (P0 [.int x0, .long x1, .int x3]) (k2_QcV (.long (fX3_sided x0 x1 x3))) 0 0 (fun _ => False) := by
  refine Met.ofW (cc := cX3_sided) (maxL := 4) (ret := (some .long)) (by decide) rfl ?_
  intro p e s m args below meth c s₁ B hml hv
  have hv2 : args = _ := hv
  subst hv2
  have hx := B.exec
  have hb := B.bytes
  have hr := B.returns
  have hts := atoms_spec (ws := wsX3_sided) B.pre
  have hown : s.vm.findClass RX3 = some m.cls := findClass_of_methodNamed B.named
  have hlocks := B.notSynchronized
  have hl := lv_entry ([.int x0, .long x1, .int x3]) (n := 4) (Nat.le_of_ble_eq_true rfl)
  rw [lg_entry_eq]
  generalize (lg_sl ([.int x0, .long x1, .int x3]) ++ List.replicate (4 - (lg_sl ([.int x0, .long x1, .int x3])).length) Slot.unset).toArray = ls at hl ⊢
  have hl : lv_has ls 4 [(0, .int x0), (1, .long x1), (3, .int x3)] := hl
  refine lv_iload_n hx hb dX3_sided_0 rfl (lv_at hl 2 rfl) ?_
  refine lv_if_ne (tgt := 6) hx hb dX3_sided_1 (by decide) (fun c_1 => ?_) (fun c_1 => ?_)
  · refine lv_iload_n hx hb dX3_sided_6 rfl (lv_at hl 0 rfl) ?_
    refine lv_if_eq (tgt := 18) hx hb dX3_sided_7 (by decide) (fun c_2 => ?_) (fun c_2 => ?_)
    · refine lv_lload_n hx hb dX3_sided_18 rfl (lv_at hl 1 rfl) ?_
      refine lv_ldc2 (v := (2147483648)) hx hb hown (hts (.constantLong RX3 37 (2147483648)) (by decide +kernel)) dX3_sided_19 ?_
      refine lv_lsub hx hb dX3_sided_22 ?_
      exact W.lret hx hb hr (fun t ht _ => ⟨congrArg (fun z => Outcome.returned (some (Value.long z))) (by unfold fX3_sided; rw [if_neg c_1, if_pos c_2]), ht⟩) (fun _ h => nomatch h) dX3_sided_23
    · refine lv_lload_n hx hb dX3_sided_10 rfl (lv_at hl 1 rfl) ?_
      refine lv_ldc2 (v := (-9223372036854775808)) hx hb hown (hts (.constantLong RX3 35 (-9223372036854775808)) (by decide +kernel)) dX3_sided_11 ?_
      refine lv_lor hx hb dX3_sided_14 ?_
      refine lv_goto (tgt := 23) hx hb dX3_sided_15 (by decide) ?_
      exact W.lret hx hb hr (fun t ht _ => ⟨congrArg (fun z => Outcome.returned (some (Value.long z))) (by unfold fX3_sided; rw [if_neg c_1, if_neg c_2]), ht⟩) (fun _ h => nomatch h) dX3_sided_23
  · refine lv_lload_n hx hb dX3_sided_4 rfl (lv_at hl 1 rfl) ?_
    exact W.lret hx hb hr (fun t ht _ => ⟨congrArg (fun z => Outcome.returned (some (Value.long z))) (by unfold fX3_sided; rw [if_pos c_1]), ht⟩) (fun _ h => nomatch h) dX3_sided_5
def fX3_turned (x0 : Int32) (x1 : Int64) : Int64 :=
  if x1 < (0 : Int64) then
    fX3_sided x0 (fX3_sizeOf x0 x1) (0 : Int32)
  else
    fX3_sided x0 (fX3_sizeOf x0 x1) (1 : Int32)
theorem hd_X3_turned : yX3_turned.cls ≠ "java/lang/invoke/MethodHandle" ∧ yX3_turned.cls ≠ "java/lang/invoke/VarHandle" ∧ (parseMethodDescriptor yX3_turned.desc).map (fun d => d.parameters.length) = some 2 := by decide +kernel
set_option maxHeartbeats 4000000 in
set_option maxRecDepth 100000 in
theorem c_X3_turned (l : Launch) (x0 : Int32) (x1 : Int64) : Met l yX3_turned wsX3_turned ({ frames := 1, cells := 0, slots := 0, locals := 23 }) (P0 [.int x0, .long x1]) (k2_QcV (.long (fX3_turned x0 x1))) 0 0 (fun _ => False) := by
  refine Met.ofW (cc := cX3_turned) (maxL := 3) (ret := (some .long)) (by decide) rfl ?_
  intro p e s m args below meth c s₁ B hml hv
  have hv2 : args = _ := hv
  subst hv2
  have hx := B.exec
  have hb := B.bytes
  have hr := B.returns
  have hts := atoms_spec (ws := wsX3_turned) B.pre
  have hown : s.vm.findClass RX3 = some m.cls := findClass_of_methodNamed B.named
  have hlocks := B.notSynchronized
  have hl := lv_entry ([.int x0, .long x1]) (n := 3) (Nat.le_of_ble_eq_true rfl)
  rw [lg_entry_eq]
  generalize (lg_sl ([.int x0, .long x1]) ++ List.replicate (3 - (lg_sl ([.int x0, .long x1])).length) Slot.unset).toArray = ls at hl ⊢
  have hl : lv_has ls 3 [(0, .int x0), (1, .long x1)] := hl
  refine lv_iload_n hx hb dX3_turned_0 rfl (lv_at hl 0 rfl) ?_
  refine lv_iload_n hx hb dX3_turned_1 rfl (lv_at hl 0 rfl) ?_
  refine lv_lload_n hx hb dX3_turned_2 rfl (lv_at hl 1 rfl) ?_
  refine pc_0 (As := [.int x0, .long x1]) (rest := [.int x0]) (r := .long (fX3_sizeOf x0 x1)) ⟨hx, hb, hml, hown, hts⟩ (c_X3_sizeOf l x0 x1) (va_cwS 2 hts gX3_turned_X3_sizeOf rfl rfl rfl hd_X3_sizeOf ⟨Nat.le_of_ble_eq_true rfl, Nat.le_of_ble_eq_true rfl⟩) rfl hl.1 rfl (lv_room (Nat.le_of_ble_eq_true rfl)) dX3_turned_3 ⟨Nat.zero_le _, Nat.zero_le _⟩ ?_
  refine lv_lload_n hx hb dX3_turned_6 rfl (lv_at hl 1 rfl) ?_
  refine lv_lconst (v := 0) hx hb dX3_turned_7 (by decide) ?_
  refine pl_lt (tgt := 16) hx hb dX3_turned_8 dX3_turned_9 (by decide) (fun c_1 => ?_) (fun c_1 => ?_)
  · refine lv_iconst (v := 0) hx hb dX3_turned_16 (by decide) ?_
    refine pc_0 (As := [.int x0, .long (fX3_sizeOf x0 x1), .int (0 : Int32)]) (rest := []) (r := .long (fX3_sided x0 (fX3_sizeOf x0 x1) (0 : Int32))) ⟨hx, hb, hml, hown, hts⟩ (c_X3_sided l x0 (fX3_sizeOf x0 x1) (0 : Int32)) (va_cwS 3 hts gX3_turned_X3_sided rfl rfl rfl hd_X3_sided ⟨Nat.le_of_ble_eq_true rfl, Nat.le_of_ble_eq_true rfl⟩) rfl hl.1 rfl (lv_room (Nat.le_of_ble_eq_true rfl)) dX3_turned_17 ⟨Nat.zero_le _, Nat.zero_le _⟩ ?_
    exact W.lret hx hb hr (fun t ht _ => ⟨congrArg (fun z => Outcome.returned (some (Value.long z))) (by unfold fX3_turned; rw [if_pos c_1]), ht⟩) (fun _ h => nomatch h) dX3_turned_20
  · refine lv_iconst (v := 1) hx hb dX3_turned_12 (by decide) ?_
    refine lv_goto (tgt := 17) hx hb dX3_turned_13 (by decide) ?_
    refine pc_0 (As := [.int x0, .long (fX3_sizeOf x0 x1), .int (1 : Int32)]) (rest := []) (r := .long (fX3_sided x0 (fX3_sizeOf x0 x1) (1 : Int32))) ⟨hx, hb, hml, hown, hts⟩ (c_X3_sided l x0 (fX3_sizeOf x0 x1) (1 : Int32)) (va_cwS 3 hts gX3_turned_X3_sided rfl rfl rfl hd_X3_sided ⟨Nat.le_of_ble_eq_true rfl, Nat.le_of_ble_eq_true rfl⟩) rfl hl.1 rfl (lv_room (Nat.le_of_ble_eq_true rfl)) dX3_turned_17 ⟨Nat.zero_le _, Nat.zero_le _⟩ ?_
    exact W.lret hx hb hr (fun t ht _ => ⟨congrArg (fun z => Outcome.returned (some (Value.long z))) (by unfold fX3_turned; rw [if_neg c_1]), ht⟩) (fun _ h => nomatch h) dX3_turned_20
def fX3_alike (x0 : Int32) (x1 : Int64) (x3 : Int64) : Int32 :=
  if x1 = x3 then
    (1 : Int32)
  else
    if (fX3_isNought x0 x1) = 0 then
      (0 : Int32)
    else
      if (fX3_isNought x0 x3) = 0 then
        (0 : Int32)
      else
        (1 : Int32)
theorem hd_X3_alike : yX3_alike.cls ≠ "java/lang/invoke/MethodHandle" ∧ yX3_alike.cls ≠ "java/lang/invoke/VarHandle" ∧ (parseMethodDescriptor yX3_alike.desc).map (fun d => d.parameters.length) = some 3 := by decide +kernel
set_option maxHeartbeats 4000000 in
set_option maxRecDepth 100000 in
theorem c_X3_alike (l : Launch) (x0 : Int32) (x1 : Int64) (x3 : Int64) : Met l yX3_alike wsX3_alike ({ frames := 2, cells := 0, slots := 0, locals := 44 }) (P0 [.int x0, .long x1, .long x3]) (k2_QcV (.int (fX3_alike x0 x1 x3))) 0 0 (fun _ => False) := by
  refine Met.ofW (cc := cX3_alike) (maxL := 5) (ret := (some .boolean)) (by decide) rfl ?_
  intro p e s m args below meth c s₁ B hml hv
  have hv2 : args = _ := hv
  subst hv2
  have hx := B.exec
  have hb := B.bytes
  have hr := B.returns
  have hts := atoms_spec (ws := wsX3_alike) B.pre
  have hown : s.vm.findClass RX3 = some m.cls := findClass_of_methodNamed B.named
  have hlocks := B.notSynchronized
  have hl := lv_entry ([.int x0, .long x1, .long x3]) (n := 5) (Nat.le_of_ble_eq_true rfl)
  rw [lg_entry_eq]
  generalize (lg_sl ([.int x0, .long x1, .long x3]) ++ List.replicate (5 - (lg_sl ([.int x0, .long x1, .long x3])).length) Slot.unset).toArray = ls at hl ⊢
  have hl : lv_has ls 5 [(0, .int x0), (1, .long x1), (3, .long x3)] := hl
  refine lv_lload_n hx hb dX3_alike_0 rfl (lv_at hl 1 rfl) ?_
  refine lv_lload_n hx hb dX3_alike_1 rfl (lv_at hl 2 rfl) ?_
  refine pl_eq (tgt := 22) hx hb dX3_alike_2 dX3_alike_3 (by decide) (fun c_1 => ?_) (fun c_1 => ?_)
  · refine lv_iconst (v := 1) hx hb dX3_alike_22 (by decide) ?_
    refine lv_goto (tgt := 27) hx hb dX3_alike_23 (by decide) ?_
    exact W.zret hx hb hr (by decide) (fun t ht _ => ⟨congrArg (fun z => Outcome.returned (some (Value.int z))) (by unfold fX3_alike; rw [if_pos c_1]), ht⟩) (fun _ h => nomatch h) dX3_alike_27
  · refine lv_iload_n hx hb dX3_alike_6 rfl (lv_at hl 0 rfl) ?_
    refine lv_lload_n hx hb dX3_alike_7 rfl (lv_at hl 1 rfl) ?_
    refine pc_0 (As := [.int x0, .long x1]) (rest := []) (r := .int (fX3_isNought x0 x1)) ⟨hx, hb, hml, hown, hts⟩ (c_X3_isNought l x0 x1) (va_cwS 2 hts gX3_alike_X3_isNought rfl rfl rfl hd_X3_isNought ⟨Nat.le_of_ble_eq_true rfl, Nat.le_of_ble_eq_true rfl⟩) rfl hl.1 rfl (lv_room (Nat.le_of_ble_eq_true rfl)) dX3_alike_8 ⟨Nat.zero_le _, Nat.zero_le _⟩ ?_
    refine lv_if_eq (tgt := 26) hx hb dX3_alike_11 (by decide) (fun c_2 => ?_) (fun c_2 => ?_)
    · refine lv_iconst (v := 0) hx hb dX3_alike_26 (by decide) ?_
      exact W.zret hx hb hr (by decide) (fun t ht _ => ⟨congrArg (fun z => Outcome.returned (some (Value.int z))) (by unfold fX3_alike; rw [if_neg c_1, if_pos c_2]), ht⟩) (fun _ h => nomatch h) dX3_alike_27
    · refine lv_iload_n hx hb dX3_alike_14 rfl (lv_at hl 0 rfl) ?_
      refine lv_lload_n hx hb dX3_alike_15 rfl (lv_at hl 2 rfl) ?_
      refine pc_0 (As := [.int x0, .long x3]) (rest := []) (r := .int (fX3_isNought x0 x3)) ⟨hx, hb, hml, hown, hts⟩ (c_X3_isNought l x0 x3) (va_cwS 2 hts gX3_alike_X3_isNought rfl rfl rfl hd_X3_isNought ⟨Nat.le_of_ble_eq_true rfl, Nat.le_of_ble_eq_true rfl⟩) rfl hl.1 rfl (lv_room (Nat.le_of_ble_eq_true rfl)) dX3_alike_16 ⟨Nat.zero_le _, Nat.zero_le _⟩ ?_
      refine lv_if_eq (tgt := 26) hx hb dX3_alike_19 (by decide) (fun c_3 => ?_) (fun c_3 => ?_)
      · refine lv_iconst (v := 0) hx hb dX3_alike_26 (by decide) ?_
        exact W.zret hx hb hr (by decide) (fun t ht _ => ⟨congrArg (fun z => Outcome.returned (some (Value.int z))) (by unfold fX3_alike; rw [if_neg c_1, if_neg c_2, if_pos c_3]), ht⟩) (fun _ h => nomatch h) dX3_alike_27
      · refine lv_iconst (v := 1) hx hb dX3_alike_22 (by decide) ?_
        refine lv_goto (tgt := 27) hx hb dX3_alike_23 (by decide) ?_
        exact W.zret hx hb hr (by decide) (fun t ht _ => ⟨congrArg (fun z => Outcome.returned (some (Value.int z))) (by unfold fX3_alike; rw [if_neg c_1, if_neg c_2, if_neg c_3]), ht⟩) (fun _ h => nomatch h) dX3_alike_27
def fX3_grown (x0 : Int32) (x1 : Int64) (x3 : Int64) : Int64 :=
  if (0 : Int64) ≤ x3 then
    if x0 = 0 then
      x3
    else
      if x0 = 1 then
        if x1 ≤ x3 then
          x3
        else
          x1
      else
        if x0 = 2 then
          if x3 ≤ x1 then
            x3
          else
            x1
        else
          if x0 = 3 then
            x3
          else
            if (0 : Int64) ≤ x1 then
              x1 - x3
            else
              (-x1) - x3
  else
    if x0 = 0 then
      x3
    else
      if x0 = 1 then
        if x1 ≤ x3 then
          x3
        else
          x1
      else
        if x0 = 2 then
          if x3 ≤ x1 then
            x3
          else
            x1
        else
          if x0 = 3 then
            -x3
          else
            if (0 : Int64) ≤ x1 then
              x1 - (-x3)
            else
              (-x1) - (-x3)
theorem hd_X3_grown : yX3_grown.cls ≠ "java/lang/invoke/MethodHandle" ∧ yX3_grown.cls ≠ "java/lang/invoke/VarHandle" ∧ (parseMethodDescriptor yX3_grown.desc).map (fun d => d.parameters.length) = some 3 := by decide +kernel
set_option maxHeartbeats 4000000 in
set_option maxRecDepth 100000 in
theorem c_X3_grown (l : Launch) (x0 : Int32) (x1 : Int64) (x3 : Int64) : Met l yX3_grown wsX3_grown ({ frames := 0, cells := 0, slots := 0, locals := 0 }) (P0 [.int x0, .long x1, .long x3]) (k2_QcV (.long (fX3_grown x0 x1 x3))) 0 0 (fun _ => False) := by
  refine Met.ofW (cc := cX3_grown) (maxL := 7) (ret := (some .long)) (by decide) rfl ?_
  intro p e s m args below meth c s₁ B hml hv
  have hv2 : args = _ := hv
  subst hv2
  have hx := B.exec
  have hb := B.bytes
  have hr := B.returns
  have hts := atoms_spec (ws := wsX3_grown) B.pre
  have hown : s.vm.findClass RX3 = some m.cls := findClass_of_methodNamed B.named
  have hlocks := B.notSynchronized
  have hl := lv_entry ([.int x0, .long x1, .long x3]) (n := 7) (Nat.le_of_ble_eq_true rfl)
  rw [lg_entry_eq]
  generalize (lg_sl ([.int x0, .long x1, .long x3]) ++ List.replicate (7 - (lg_sl ([.int x0, .long x1, .long x3])).length) Slot.unset).toArray = ls at hl ⊢
  have hl : lv_has ls 7 [(0, .int x0), (1, .long x1), (3, .long x3)] := hl
  refine lv_lload_n hx hb dX3_grown_0 rfl (lv_at hl 2 rfl) ?_
  refine lv_lconst (v := 0) hx hb dX3_grown_1 (by decide) ?_
  refine pl_ge (tgt := 11) hx hb dX3_grown_2 dX3_grown_3 (by decide) (fun c_1 => ?_) (fun c_1 => ?_)
  · refine lv_lload_n hx hb dX3_grown_11 rfl (lv_at hl 2 rfl) ?_
    refine lv_lstore (lv' := [(5, .long x3), (0, .int x0), (1, .long x1), (3, .long x3)]) hx hb dX3_grown_12 hl (by decide) rfl (fun ls hl => ?_)
    refine lv_iload_n hx hb dX3_grown_14 rfl (lv_at hl 1 rfl) ?_
    by_cases c_2 : x0 = 0
    · refine lv_tableIn (tgt := 44) (off := 29) hx hb dX3_grown_15 (by rw [c_2]; decide) (by rw [c_2]; decide) (by rw [c_2]; rfl) (by decide) ?_
      refine lv_lload_n hx hb dX3_grown_44 rfl (lv_at hl 3 rfl) ?_
      exact W.lret hx hb hr (fun t ht _ => ⟨congrArg (fun z => Outcome.returned (some (Value.long z))) (by unfold fX3_grown; rw [if_pos c_1, if_pos c_2]), ht⟩) (fun _ h => nomatch h) dX3_grown_45
    · by_cases c_3 : x0 = 1
      · refine lv_tableIn (tgt := 46) (off := 31) hx hb dX3_grown_15 (by rw [c_3]; decide) (by rw [c_3]; decide) (by rw [c_3]; rfl) (by decide) ?_
        refine lv_lload_n hx hb dX3_grown_46 rfl (lv_at hl 2 rfl) ?_
        refine lv_lload_n hx hb dX3_grown_47 rfl (lv_at hl 3 rfl) ?_
        refine pl_le (tgt := 56) hx hb dX3_grown_48 dX3_grown_49 (by decide) (fun c_4 => ?_) (fun c_4 => ?_)
        · refine lv_lload_n hx hb dX3_grown_56 rfl (lv_at hl 3 rfl) ?_
          exact W.lret hx hb hr (fun t ht _ => ⟨congrArg (fun z => Outcome.returned (some (Value.long z))) (by unfold fX3_grown; rw [if_pos c_1, if_neg c_2, if_pos c_3, if_pos c_4]), ht⟩) (fun _ h => nomatch h) dX3_grown_57
        · refine lv_lload_n hx hb dX3_grown_52 rfl (lv_at hl 2 rfl) ?_
          refine lv_goto (tgt := 57) hx hb dX3_grown_53 (by decide) ?_
          exact W.lret hx hb hr (fun t ht _ => ⟨congrArg (fun z => Outcome.returned (some (Value.long z))) (by unfold fX3_grown; rw [if_pos c_1, if_neg c_2, if_pos c_3, if_neg c_4]), ht⟩) (fun _ h => nomatch h) dX3_grown_57
      · by_cases c_5 : x0 = 2
        · refine lv_tableIn (tgt := 58) (off := 43) hx hb dX3_grown_15 (by rw [c_5]; decide) (by rw [c_5]; decide) (by rw [c_5]; rfl) (by decide) ?_
          refine lv_lload_n hx hb dX3_grown_58 rfl (lv_at hl 2 rfl) ?_
          refine lv_lload_n hx hb dX3_grown_59 rfl (lv_at hl 3 rfl) ?_
          refine pl_ge (tgt := 68) hx hb dX3_grown_60 dX3_grown_61 (by decide) (fun c_6 => ?_) (fun c_6 => ?_)
          · refine lv_lload_n hx hb dX3_grown_68 rfl (lv_at hl 3 rfl) ?_
            exact W.lret hx hb hr (fun t ht _ => ⟨congrArg (fun z => Outcome.returned (some (Value.long z))) (by unfold fX3_grown; rw [if_pos c_1, if_neg c_2, if_neg c_3, if_pos c_5, if_pos c_6]), ht⟩) (fun _ h => nomatch h) dX3_grown_69
          · refine lv_lload_n hx hb dX3_grown_64 rfl (lv_at hl 2 rfl) ?_
            refine lv_goto (tgt := 69) hx hb dX3_grown_65 (by decide) ?_
            exact W.lret hx hb hr (fun t ht _ => ⟨congrArg (fun z => Outcome.returned (some (Value.long z))) (by unfold fX3_grown; rw [if_pos c_1, if_neg c_2, if_neg c_3, if_pos c_5, if_neg c_6]), ht⟩) (fun _ h => nomatch h) dX3_grown_69
        · by_cases c_7 : x0 = 3
          · refine lv_tableIn (tgt := 70) (off := 55) hx hb dX3_grown_15 (by rw [c_7]; decide) (by rw [c_7]; decide) (by rw [c_7]; rfl) (by decide) ?_
            refine lv_lload hx hb dX3_grown_70 (lv_at hl 0 rfl) ?_
            exact W.lret hx hb hr (fun t ht _ => ⟨congrArg (fun z => Outcome.returned (some (Value.long z))) (by unfold fX3_grown; rw [if_pos c_1, if_neg c_2, if_neg c_3, if_neg c_5, if_pos c_7]), ht⟩) (fun _ h => nomatch h) dX3_grown_72
          · refine lv_tableOut (tgt := 73) hx hb dX3_grown_15 (by have h0 := lv_neT c_2 (a := 0) rfl; have h1 := lv_neT c_3 (a := 1) rfl; have h2 := lv_neT c_5 (a := 2) rfl; have h3 := lv_neT c_7 (a := 3) rfl; omega) (by decide) ?_
            refine lv_lload_n hx hb dX3_grown_73 rfl (lv_at hl 2 rfl) ?_
            refine lv_lconst (v := 0) hx hb dX3_grown_74 (by decide) ?_
            refine pl_ge (tgt := 84) hx hb dX3_grown_75 dX3_grown_76 (by decide) (fun c_8 => ?_) (fun c_8 => ?_)
            · refine lv_lload_n hx hb dX3_grown_84 rfl (lv_at hl 2 rfl) ?_
              refine lv_lload hx hb dX3_grown_85 (lv_at hl 0 rfl) ?_
              refine lv_lsub hx hb dX3_grown_87 ?_
              exact W.lret hx hb hr (fun t ht _ => ⟨congrArg (fun z => Outcome.returned (some (Value.long z))) (by unfold fX3_grown; rw [if_pos c_1, if_neg c_2, if_neg c_3, if_neg c_5, if_neg c_7, if_pos c_8]), ht⟩) (fun _ h => nomatch h) dX3_grown_88
            · refine lv_lload_n hx hb dX3_grown_79 rfl (lv_at hl 2 rfl) ?_
              refine lv_lneg hx hb dX3_grown_80 ?_
              refine lv_goto (tgt := 85) hx hb dX3_grown_81 (by decide) ?_
              refine lv_lload hx hb dX3_grown_85 (lv_at hl 0 rfl) ?_
              refine lv_lsub hx hb dX3_grown_87 ?_
              exact W.lret hx hb hr (fun t ht _ => ⟨congrArg (fun z => Outcome.returned (some (Value.long z))) (by unfold fX3_grown; rw [if_pos c_1, if_neg c_2, if_neg c_3, if_neg c_5, if_neg c_7, if_neg c_8]), ht⟩) (fun _ h => nomatch h) dX3_grown_88
  · refine lv_lload_n hx hb dX3_grown_6 rfl (lv_at hl 2 rfl) ?_
    refine lv_lneg hx hb dX3_grown_7 ?_
    refine lv_goto (tgt := 12) hx hb dX3_grown_8 (by decide) ?_
    refine lv_lstore (lv' := [(5, .long (-x3)), (0, .int x0), (1, .long x1), (3, .long x3)]) hx hb dX3_grown_12 hl (by decide) rfl (fun ls hl => ?_)
    refine lv_iload_n hx hb dX3_grown_14 rfl (lv_at hl 1 rfl) ?_
    by_cases c_9 : x0 = 0
    · refine lv_tableIn (tgt := 44) (off := 29) hx hb dX3_grown_15 (by rw [c_9]; decide) (by rw [c_9]; decide) (by rw [c_9]; rfl) (by decide) ?_
      refine lv_lload_n hx hb dX3_grown_44 rfl (lv_at hl 3 rfl) ?_
      exact W.lret hx hb hr (fun t ht _ => ⟨congrArg (fun z => Outcome.returned (some (Value.long z))) (by unfold fX3_grown; rw [if_neg c_1, if_pos c_9]), ht⟩) (fun _ h => nomatch h) dX3_grown_45
    · by_cases c_10 : x0 = 1
      · refine lv_tableIn (tgt := 46) (off := 31) hx hb dX3_grown_15 (by rw [c_10]; decide) (by rw [c_10]; decide) (by rw [c_10]; rfl) (by decide) ?_
        refine lv_lload_n hx hb dX3_grown_46 rfl (lv_at hl 2 rfl) ?_
        refine lv_lload_n hx hb dX3_grown_47 rfl (lv_at hl 3 rfl) ?_
        refine pl_le (tgt := 56) hx hb dX3_grown_48 dX3_grown_49 (by decide) (fun c_11 => ?_) (fun c_11 => ?_)
        · refine lv_lload_n hx hb dX3_grown_56 rfl (lv_at hl 3 rfl) ?_
          exact W.lret hx hb hr (fun t ht _ => ⟨congrArg (fun z => Outcome.returned (some (Value.long z))) (by unfold fX3_grown; rw [if_neg c_1, if_neg c_9, if_pos c_10, if_pos c_11]), ht⟩) (fun _ h => nomatch h) dX3_grown_57
        · refine lv_lload_n hx hb dX3_grown_52 rfl (lv_at hl 2 rfl) ?_
          refine lv_goto (tgt := 57) hx hb dX3_grown_53 (by decide) ?_
          exact W.lret hx hb hr (fun t ht _ => ⟨congrArg (fun z => Outcome.returned (some (Value.long z))) (by unfold fX3_grown; rw [if_neg c_1, if_neg c_9, if_pos c_10, if_neg c_11]), ht⟩) (fun _ h => nomatch h) dX3_grown_57
      · by_cases c_12 : x0 = 2
        · refine lv_tableIn (tgt := 58) (off := 43) hx hb dX3_grown_15 (by rw [c_12]; decide) (by rw [c_12]; decide) (by rw [c_12]; rfl) (by decide) ?_
          refine lv_lload_n hx hb dX3_grown_58 rfl (lv_at hl 2 rfl) ?_
          refine lv_lload_n hx hb dX3_grown_59 rfl (lv_at hl 3 rfl) ?_
          refine pl_ge (tgt := 68) hx hb dX3_grown_60 dX3_grown_61 (by decide) (fun c_13 => ?_) (fun c_13 => ?_)
          · refine lv_lload_n hx hb dX3_grown_68 rfl (lv_at hl 3 rfl) ?_
            exact W.lret hx hb hr (fun t ht _ => ⟨congrArg (fun z => Outcome.returned (some (Value.long z))) (by unfold fX3_grown; rw [if_neg c_1, if_neg c_9, if_neg c_10, if_pos c_12, if_pos c_13]), ht⟩) (fun _ h => nomatch h) dX3_grown_69
          · refine lv_lload_n hx hb dX3_grown_64 rfl (lv_at hl 2 rfl) ?_
            refine lv_goto (tgt := 69) hx hb dX3_grown_65 (by decide) ?_
            exact W.lret hx hb hr (fun t ht _ => ⟨congrArg (fun z => Outcome.returned (some (Value.long z))) (by unfold fX3_grown; rw [if_neg c_1, if_neg c_9, if_neg c_10, if_pos c_12, if_neg c_13]), ht⟩) (fun _ h => nomatch h) dX3_grown_69
        · by_cases c_14 : x0 = 3
          · refine lv_tableIn (tgt := 70) (off := 55) hx hb dX3_grown_15 (by rw [c_14]; decide) (by rw [c_14]; decide) (by rw [c_14]; rfl) (by decide) ?_
            refine lv_lload hx hb dX3_grown_70 (lv_at hl 0 rfl) ?_
            exact W.lret hx hb hr (fun t ht _ => ⟨congrArg (fun z => Outcome.returned (some (Value.long z))) (by unfold fX3_grown; rw [if_neg c_1, if_neg c_9, if_neg c_10, if_neg c_12, if_pos c_14]), ht⟩) (fun _ h => nomatch h) dX3_grown_72
          · refine lv_tableOut (tgt := 73) hx hb dX3_grown_15 (by have h0 := lv_neT c_9 (a := 0) rfl; have h1 := lv_neT c_10 (a := 1) rfl; have h2 := lv_neT c_12 (a := 2) rfl; have h3 := lv_neT c_14 (a := 3) rfl; omega) (by decide) ?_
            refine lv_lload_n hx hb dX3_grown_73 rfl (lv_at hl 2 rfl) ?_
            refine lv_lconst (v := 0) hx hb dX3_grown_74 (by decide) ?_
            refine pl_ge (tgt := 84) hx hb dX3_grown_75 dX3_grown_76 (by decide) (fun c_15 => ?_) (fun c_15 => ?_)
            · refine lv_lload_n hx hb dX3_grown_84 rfl (lv_at hl 2 rfl) ?_
              refine lv_lload hx hb dX3_grown_85 (lv_at hl 0 rfl) ?_
              refine lv_lsub hx hb dX3_grown_87 ?_
              exact W.lret hx hb hr (fun t ht _ => ⟨congrArg (fun z => Outcome.returned (some (Value.long z))) (by unfold fX3_grown; rw [if_neg c_1, if_neg c_9, if_neg c_10, if_neg c_12, if_neg c_14, if_pos c_15]), ht⟩) (fun _ h => nomatch h) dX3_grown_88
            · refine lv_lload_n hx hb dX3_grown_79 rfl (lv_at hl 2 rfl) ?_
              refine lv_lneg hx hb dX3_grown_80 ?_
              refine lv_goto (tgt := 85) hx hb dX3_grown_81 (by decide) ?_
              refine lv_lload hx hb dX3_grown_85 (lv_at hl 0 rfl) ?_
              refine lv_lsub hx hb dX3_grown_87 ?_
              exact W.lret hx hb hr (fun t ht _ => ⟨congrArg (fun z => Outcome.returned (some (Value.long z))) (by unfold fX3_grown; rw [if_neg c_1, if_neg c_9, if_neg c_10, if_neg c_12, if_neg c_14, if_neg c_15]), ht⟩) (fun _ h => nomatch h) dX3_grown_88
end
section
def fX0_fineFromCoarse (x0 : Int64) : Int64 :=
  if (fX0_sizeOf 1 x0) = (0 : Int64) then
    fX0_withSideOf 0 (0 : Int64) x0
  else
    if (fX0_sizeOf 1 x0) = (kInf 1) then
      fX0_withSideOf 0 (kInf 0) x0
    else
      let v80_3 : Int32 := ((fX0_exponentOf 1 (fX0_sizeOf 1 x0)) - (kBias 1)) + (kBias 0)
      let v100_4 : Int64 := fX0_sizeFrom 0 ((fX0_significandOf 1 (fX0_sizeOf 1 x0)) <<< ((((kFrac 0) - (kFrac 1)) + (3 : Int32)).toInt64 &&& 63)) v80_3
      fX0_withSideOf 0 v100_4 x0
theorem hd_X0_fineFromCoarse : yX0_fineFromCoarse.cls ≠ "java/lang/invoke/MethodHandle" ∧ yX0_fineFromCoarse.cls ≠ "java/lang/invoke/VarHandle" ∧ (parseMethodDescriptor yX0_fineFromCoarse.desc).map (fun d => d.parameters.length) = some 1 := by decide +kernel
set_option maxHeartbeats 4000000 in
set_option maxRecDepth 100000 in
theorem c_X0_fineFromCoarse (l : Launch) (ad : Nat → Nat) (x0 : Int64) : Met l yX0_fineFromCoarse wsX0_fineFromCoarse ({ frames := 3, cells := 0, slots := 0, locals := 77 }) (PK ad [.long x0]) (k2_QcV (.long (fX0_fineFromCoarse x0))) 0 0 (fun _ => False) := by
  refine Met.ofW (cc := cX0_fineFromCoarse) (maxL := 8) (ret := (some .long)) (by decide) rfl ?_
  intro p e s m args below meth c s₁ B hml hv
  obtain ⟨rfl, hKC⟩ := hv
  have hx := B.exec
  have hb := B.bytes
  have hr := B.returns
  have hts := atoms_spec (ws := wsX0_fineFromCoarse) B.pre
  have hown : s.vm.findClass RX0 = some m.cls := findClass_of_methodNamed B.named
  have hlocks := B.notSynchronized
  have hS : va_S (fun _ => False) s.heap s.heap [] := va_S.rf
  have hl := lv_entry ([.long x0]) (n := 8) (Nat.le_of_ble_eq_true rfl)
  rw [lg_entry_eq]
  generalize (lg_sl ([.long x0]) ++ List.replicate (8 - (lg_sl ([.long x0])).length) Slot.unset).toArray = ls at hl ⊢
  have hl : lv_has ls 8 [(0, .long x0)] := hl
  refine pk_coarse hx hb hKC hS hown (hts (.fieldLink RX0 7 "NeedleBoard$Kind" "COARSE" "LNeedleBoard$Kind;") (by decide +kernel)) dX0_fineFromCoarse_0 ?_
  refine lv_lload_n hx hb dX0_fineFromCoarse_3 rfl (lv_at hl 0 rfl) ?_
  refine pc_V (i := 1) (As := [.long x0]) (rest := []) (r := .long (fX0_sizeOf 1 x0)) ⟨hx, hb, hml, hown, hts⟩ (c_X0_sizeOf l ad 1 (by decide) x0) (cwV 1 hts gX0_fineFromCoarse_X0_sizeOf rfl rfl rfl hd_X0_sizeOf ⟨Nat.le_of_ble_eq_true rfl, Nat.le_of_ble_eq_true rfl⟩) hKC hS (by decide) rfl hl.1 rfl (lv_room (Nat.le_of_ble_eq_true rfl)) dX0_fineFromCoarse_4 ⟨Nat.zero_le _, Nat.zero_le _⟩ ?_
  refine lv_lstore_n (lv' := [(2, .long (fX0_sizeOf 1 x0)), (0, .long x0)]) hx hb dX0_fineFromCoarse_7 rfl hl (by decide) rfl (fun ls hl => ?_)
  refine lv_lload_n hx hb dX0_fineFromCoarse_8 rfl (lv_at hl 0 rfl) ?_
  refine lv_lconst (v := 0) hx hb dX0_fineFromCoarse_9 (by decide) ?_
  refine pl_ne (tgt := 20) hx hb dX0_fineFromCoarse_10 dX0_fineFromCoarse_11 (by decide) (fun c_1 => ?_) (fun c_1 => ?_)
  · refine lv_lload_n hx hb dX0_fineFromCoarse_20 rfl (lv_at hl 0 rfl) ?_
    refine pk_coarse hx hb hKC hS hown (hts (.fieldLink RX0 7 "NeedleBoard$Kind" "COARSE" "LNeedleBoard$Kind;") (by decide +kernel)) dX0_fineFromCoarse_21 ?_
    refine pk_inf hx hb hKC (by decide) hS hown (hts (.fieldLink RX0 48 "NeedleBoard$Kind" "infinity" "J") (by decide +kernel)) dX0_fineFromCoarse_24 ?_
    refine pl_ne (tgt := 42) hx hb dX0_fineFromCoarse_27 dX0_fineFromCoarse_28 (by decide) (fun c_2 => ?_) (fun c_2 => ?_)
    · refine pk_fine hx hb hKC hS hown (hts (.fieldLink RX0 3 "NeedleBoard$Kind" "FINE" "LNeedleBoard$Kind;") (by decide +kernel)) dX0_fineFromCoarse_42 ?_
      refine pk_frac hx hb hKC (by decide) hS hown (hts (.fieldLink RX0 29 "NeedleBoard$Kind" "fractionBits" "I") (by decide +kernel)) dX0_fineFromCoarse_45 ?_
      refine pk_coarse hx hb hKC hS hown (hts (.fieldLink RX0 7 "NeedleBoard$Kind" "COARSE" "LNeedleBoard$Kind;") (by decide +kernel)) dX0_fineFromCoarse_48 ?_
      refine pk_frac hx hb hKC (by decide) hS hown (hts (.fieldLink RX0 29 "NeedleBoard$Kind" "fractionBits" "I") (by decide +kernel)) dX0_fineFromCoarse_51 ?_
      refine lv_isub hx hb dX0_fineFromCoarse_54 ?_
      refine lv_iconst (v := 3) hx hb dX0_fineFromCoarse_55 (by decide) ?_
      refine lv_iadd hx hb dX0_fineFromCoarse_56 ?_
      refine lv_istore (lv' := [(6, .int (((kFrac 0) - (kFrac 1)) + (3 : Int32))), (2, .long (fX0_sizeOf 1 x0)), (0, .long x0)]) hx hb dX0_fineFromCoarse_57 hl (by decide) rfl (fun ls hl => ?_)
      refine pk_coarse hx hb hKC hS hown (hts (.fieldLink RX0 7 "NeedleBoard$Kind" "COARSE" "LNeedleBoard$Kind;") (by decide +kernel)) dX0_fineFromCoarse_59 ?_
      refine lv_lload_n hx hb dX0_fineFromCoarse_62 rfl (lv_at hl 1 rfl) ?_
      refine pc_V (i := 1) (As := [.long (fX0_sizeOf 1 x0)]) (rest := []) (r := .int (fX0_exponentOf 1 (fX0_sizeOf 1 x0))) ⟨hx, hb, hml, hown, hts⟩ (c_X0_exponentOf l ad 1 (by decide) (fX0_sizeOf 1 x0)) (cwV 1 hts gX0_fineFromCoarse_X0_exponentOf rfl rfl rfl hd_X0_exponentOf ⟨Nat.le_of_ble_eq_true rfl, Nat.le_of_ble_eq_true rfl⟩) hKC hS (by decide) rfl hl.1 rfl (lv_room (Nat.le_of_ble_eq_true rfl)) dX0_fineFromCoarse_63 ⟨Nat.zero_le _, Nat.zero_le _⟩ ?_
      refine pk_coarse hx hb hKC hS hown (hts (.fieldLink RX0 7 "NeedleBoard$Kind" "COARSE" "LNeedleBoard$Kind;") (by decide +kernel)) dX0_fineFromCoarse_66 ?_
      refine pk_bias hx hb hKC (by decide) hS hown (hts (.fieldLink RX0 33 "NeedleBoard$Kind" "bias" "I") (by decide +kernel)) dX0_fineFromCoarse_69 ?_
      refine lv_isub hx hb dX0_fineFromCoarse_72 ?_
      refine pk_fine hx hb hKC hS hown (hts (.fieldLink RX0 3 "NeedleBoard$Kind" "FINE" "LNeedleBoard$Kind;") (by decide +kernel)) dX0_fineFromCoarse_73 ?_
      refine pk_bias hx hb hKC (by decide) hS hown (hts (.fieldLink RX0 33 "NeedleBoard$Kind" "bias" "I") (by decide +kernel)) dX0_fineFromCoarse_76 ?_
      refine lv_iadd hx hb dX0_fineFromCoarse_79 ?_
      refine lv_topi (fun v80_3 e_v80_3 => ?_)
      refine lv_istore (lv' := [(7, .int v80_3), (6, .int (((kFrac 0) - (kFrac 1)) + (3 : Int32))), (2, .long (fX0_sizeOf 1 x0)), (0, .long x0)]) hx hb dX0_fineFromCoarse_80 hl (by decide) rfl (fun ls hl => ?_)
      refine pk_fine hx hb hKC hS hown (hts (.fieldLink RX0 3 "NeedleBoard$Kind" "FINE" "LNeedleBoard$Kind;") (by decide +kernel)) dX0_fineFromCoarse_82 ?_
      refine pk_coarse hx hb hKC hS hown (hts (.fieldLink RX0 7 "NeedleBoard$Kind" "COARSE" "LNeedleBoard$Kind;") (by decide +kernel)) dX0_fineFromCoarse_85 ?_
      refine lv_lload_n hx hb dX0_fineFromCoarse_88 rfl (lv_at hl 2 rfl) ?_
      refine pc_V (i := 1) (As := [.long (fX0_sizeOf 1 x0)]) (rest := [.ref (ad 0)]) (r := .long (fX0_significandOf 1 (fX0_sizeOf 1 x0))) ⟨hx, hb, hml, hown, hts⟩ (c_X0_significandOf l ad 1 (by decide) (fX0_sizeOf 1 x0)) (cwV 1 hts gX0_fineFromCoarse_X0_significandOf rfl rfl rfl hd_X0_significandOf ⟨Nat.le_of_ble_eq_true rfl, Nat.le_of_ble_eq_true rfl⟩) hKC hS (by decide) rfl hl.1 rfl (lv_room (Nat.le_of_ble_eq_true rfl)) dX0_fineFromCoarse_89 ⟨Nat.zero_le _, Nat.zero_le _⟩ ?_
      refine lv_iload hx hb dX0_fineFromCoarse_92 (lv_at hl 1 rfl) ?_
      refine lv_lshl hx hb dX0_fineFromCoarse_94 rfl ?_
      refine lv_iload hx hb dX0_fineFromCoarse_95 (lv_at hl 0 rfl) ?_
      refine pc_V (i := 0) (As := [.long ((fX0_significandOf 1 (fX0_sizeOf 1 x0)) <<< ((((kFrac 0) - (kFrac 1)) + (3 : Int32)).toInt64 &&& 63)), .int v80_3]) (rest := []) (r := .long (fX0_sizeFrom 0 ((fX0_significandOf 1 (fX0_sizeOf 1 x0)) <<< ((((kFrac 0) - (kFrac 1)) + (3 : Int32)).toInt64 &&& 63)) v80_3)) ⟨hx, hb, hml, hown, hts⟩ (c_X0_sizeFrom l ad 0 (by decide) ((fX0_significandOf 1 (fX0_sizeOf 1 x0)) <<< ((((kFrac 0) - (kFrac 1)) + (3 : Int32)).toInt64 &&& 63)) v80_3) (cwV 2 hts gX0_fineFromCoarse_X0_sizeFrom rfl rfl rfl hd_X0_sizeFrom ⟨Nat.le_of_ble_eq_true rfl, Nat.le_of_ble_eq_true rfl⟩) hKC hS (by decide) rfl hl.1 rfl (lv_room (Nat.le_of_ble_eq_true rfl)) dX0_fineFromCoarse_97 ⟨Nat.zero_le _, Nat.zero_le _⟩ ?_
      refine lv_topl (fun v100_4 e_v100_4 => ?_)
      refine lv_lstore (lv' := [(4, .long v100_4), (7, .int v80_3), (6, .int (((kFrac 0) - (kFrac 1)) + (3 : Int32))), (2, .long (fX0_sizeOf 1 x0)), (0, .long x0)]) hx hb dX0_fineFromCoarse_100 hl (by decide) rfl (fun ls hl => ?_)
      refine pk_fine hx hb hKC hS hown (hts (.fieldLink RX0 3 "NeedleBoard$Kind" "FINE" "LNeedleBoard$Kind;") (by decide +kernel)) dX0_fineFromCoarse_102 ?_
      refine lv_lload hx hb dX0_fineFromCoarse_105 (lv_at hl 0 rfl) ?_
      refine lv_lload_n hx hb dX0_fineFromCoarse_107 rfl (lv_at hl 4 rfl) ?_
      refine pc_V (i := 0) (As := [.long v100_4, .long x0]) (rest := []) (r := .long (fX0_withSideOf 0 v100_4 x0)) ⟨hx, hb, hml, hown, hts⟩ (c_X0_withSideOf l ad 0 (by decide) v100_4 x0) (cwV 2 hts gX0_fineFromCoarse_X0_withSideOf rfl rfl rfl hd_X0_withSideOf ⟨Nat.le_of_ble_eq_true rfl, Nat.le_of_ble_eq_true rfl⟩) hKC hS (by decide) rfl hl.1 rfl (lv_room (Nat.le_of_ble_eq_true rfl)) dX0_fineFromCoarse_108 ⟨Nat.zero_le _, Nat.zero_le _⟩ ?_
      exact W.lret hx hb hr (fun t ht _ => ⟨congrArg (fun z => Outcome.returned (some (Value.long z))) (by rw [fX0_fineFromCoarse]; dsimp only; rw [if_neg c_1, if_neg c_2]; rw [e_v100_4]; rw [e_v80_3]), ht⟩) (fun _ h => nomatch h) dX0_fineFromCoarse_111
    · refine pk_fine hx hb hKC hS hown (hts (.fieldLink RX0 3 "NeedleBoard$Kind" "FINE" "LNeedleBoard$Kind;") (by decide +kernel)) dX0_fineFromCoarse_31 ?_
      refine pk_inf hx hb hKC (by decide) hS hown (hts (.fieldLink RX0 48 "NeedleBoard$Kind" "infinity" "J") (by decide +kernel)) dX0_fineFromCoarse_34 ?_
      refine lv_lstore (lv' := [(4, .long (kInf 0)), (2, .long (fX0_sizeOf 1 x0)), (0, .long x0)]) hx hb dX0_fineFromCoarse_37 hl (by decide) rfl (fun ls hl => ?_)
      refine lv_goto (tgt := 102) hx hb dX0_fineFromCoarse_39 (by decide) ?_
      refine pk_fine hx hb hKC hS hown (hts (.fieldLink RX0 3 "NeedleBoard$Kind" "FINE" "LNeedleBoard$Kind;") (by decide +kernel)) dX0_fineFromCoarse_102 ?_
      refine lv_lload hx hb dX0_fineFromCoarse_105 (lv_at hl 0 rfl) ?_
      refine lv_lload_n hx hb dX0_fineFromCoarse_107 rfl (lv_at hl 2 rfl) ?_
      refine pc_V (i := 0) (As := [.long (kInf 0), .long x0]) (rest := []) (r := .long (fX0_withSideOf 0 (kInf 0) x0)) ⟨hx, hb, hml, hown, hts⟩ (c_X0_withSideOf l ad 0 (by decide) (kInf 0) x0) (cwV 2 hts gX0_fineFromCoarse_X0_withSideOf rfl rfl rfl hd_X0_withSideOf ⟨Nat.le_of_ble_eq_true rfl, Nat.le_of_ble_eq_true rfl⟩) hKC hS (by decide) rfl hl.1 rfl (lv_room (Nat.le_of_ble_eq_true rfl)) dX0_fineFromCoarse_108 ⟨Nat.zero_le _, Nat.zero_le _⟩ ?_
      exact W.lret hx hb hr (fun t ht _ => ⟨congrArg (fun z => Outcome.returned (some (Value.long z))) (by unfold fX0_fineFromCoarse; rw [if_neg c_1, if_pos c_2]), ht⟩) (fun _ h => nomatch h) dX0_fineFromCoarse_111
  · refine lv_lconst (v := 0) hx hb dX0_fineFromCoarse_14 (by decide) ?_
    refine lv_lstore (lv' := [(4, .long (0 : Int64)), (2, .long (fX0_sizeOf 1 x0)), (0, .long x0)]) hx hb dX0_fineFromCoarse_15 hl (by decide) rfl (fun ls hl => ?_)
    refine lv_goto (tgt := 102) hx hb dX0_fineFromCoarse_17 (by decide) ?_
    refine pk_fine hx hb hKC hS hown (hts (.fieldLink RX0 3 "NeedleBoard$Kind" "FINE" "LNeedleBoard$Kind;") (by decide +kernel)) dX0_fineFromCoarse_102 ?_
    refine lv_lload hx hb dX0_fineFromCoarse_105 (lv_at hl 0 rfl) ?_
    refine lv_lload_n hx hb dX0_fineFromCoarse_107 rfl (lv_at hl 2 rfl) ?_
    refine pc_V (i := 0) (As := [.long (0 : Int64), .long x0]) (rest := []) (r := .long (fX0_withSideOf 0 (0 : Int64) x0)) ⟨hx, hb, hml, hown, hts⟩ (c_X0_withSideOf l ad 0 (by decide) (0 : Int64) x0) (cwV 2 hts gX0_fineFromCoarse_X0_withSideOf rfl rfl rfl hd_X0_withSideOf ⟨Nat.le_of_ble_eq_true rfl, Nat.le_of_ble_eq_true rfl⟩) hKC hS (by decide) rfl hl.1 rfl (lv_room (Nat.le_of_ble_eq_true rfl)) dX0_fineFromCoarse_108 ⟨Nat.zero_le _, Nat.zero_le _⟩ ?_
    exact W.lret hx hb hr (fun t ht _ => ⟨congrArg (fun z => Outcome.returned (some (Value.long z))) (by unfold fX0_fineFromCoarse; rw [if_pos c_1]), ht⟩) (fun _ h => nomatch h) dX0_fineFromCoarse_111
def fJxe99ae_isNaN_b9ae7 (x0 : UInt64) : Int32 :=
  if (Op.cmpValue (FP.dcmp x0 x0) .l) = 0 then
    (0 : Int32)
  else
    (1 : Int32)
theorem hd_Jxe99ae_isNaN_b9ae7 : yJxe99ae_isNaN_b9ae7.cls ≠ "java/lang/invoke/MethodHandle" ∧ yJxe99ae_isNaN_b9ae7.cls ≠ "java/lang/invoke/VarHandle" ∧ (parseMethodDescriptor yJxe99ae_isNaN_b9ae7.desc).map (fun d => d.parameters.length) = some 1 := by decide +kernel
set_option maxHeartbeats 4000000 in
set_option maxRecDepth 100000 in
theorem c_Jxe99ae_isNaN_b9ae7 (l : Launch) (x0 : UInt64) : Met l yJxe99ae_isNaN_b9ae7 wsJxe99ae_isNaN_b9ae7 ({ frames := 0, cells := 0, slots := 0, locals := 0 }) (P0 [.double x0]) (k2_QcV (.int (fJxe99ae_isNaN_b9ae7 x0))) 0 0 (fun _ => False) := by
  refine va_MetF (cc := cJxe99ae_isNaN_b9ae7) (maxL := 2) (ret := (some .boolean)) (by decide +kernel) rfl ?_
  intro p e s m args below meth c s₁ B hml hv
  have hv2 : args = _ := hv
  subst hv2
  have hx := B.exec
  have hb := B.bytes
  have hr := B.returns
  have hts := atoms_spec (ws := wsJxe99ae_isNaN_b9ae7) B.pre
  have hown : s.vm.findClass RJxe99ae = some m.cls := findClass_of_methodNamed B.named
  have hlocks := B.notSynchronized
  have hl := lv_entry ([.double x0]) (n := 2) (Nat.le_of_ble_eq_true rfl)
  rw [lg_entry_eq]
  generalize (lg_sl ([.double x0]) ++ List.replicate (2 - (lg_sl ([.double x0])).length) Slot.unset).toArray = ls at hl ⊢
  have hl : lv_has ls 2 [(0, .double x0)] := hl
  refine lv_dload_n hx hb dJxe99ae_isNaN_b9ae7_0 rfl (lv_at hl 0 rfl) ?_
  refine lv_dload_n hx hb dJxe99ae_isNaN_b9ae7_1 rfl (lv_at hl 0 rfl) ?_
  refine lv_dcmp hx hb dJxe99ae_isNaN_b9ae7_2 ?_
  refine lv_if_eq (tgt := 10) hx hb dJxe99ae_isNaN_b9ae7_3 (by decide) (fun c_1 => ?_) (fun c_1 => ?_)
  · refine lv_iconst (v := 0) hx hb dJxe99ae_isNaN_b9ae7_10 (by decide) ?_
    exact W.zret hx hb hr (by decide) (fun t ht _ => ⟨congrArg (fun z => Outcome.returned (some (Value.int z))) (by unfold fJxe99ae_isNaN_b9ae7; rw [if_pos c_1]), ht⟩) (fun _ h => nomatch h) dJxe99ae_isNaN_b9ae7_11
  · refine lv_iconst (v := 1) hx hb dJxe99ae_isNaN_b9ae7_6 (by decide) ?_
    refine lv_goto (tgt := 11) hx hb dJxe99ae_isNaN_b9ae7_7 (by decide) ?_
    exact W.zret hx hb hr (by decide) (fun t ht _ => ⟨congrArg (fun z => Outcome.returned (some (Value.int z))) (by unfold fJxe99ae_isNaN_b9ae7; rw [if_neg c_1]), ht⟩) (fun _ h => nomatch h) dJxe99ae_isNaN_b9ae7_11
def fJxf58ca_isNaN_12338 (x0 : UInt32) : Int32 :=
  if (Op.cmpValue (FP.fcmp x0 x0) .l) = 0 then
    (0 : Int32)
  else
    (1 : Int32)
theorem hd_Jxf58ca_isNaN_12338 : yJxf58ca_isNaN_12338.cls ≠ "java/lang/invoke/MethodHandle" ∧ yJxf58ca_isNaN_12338.cls ≠ "java/lang/invoke/VarHandle" ∧ (parseMethodDescriptor yJxf58ca_isNaN_12338.desc).map (fun d => d.parameters.length) = some 1 := by decide +kernel
set_option maxHeartbeats 4000000 in
set_option maxRecDepth 100000 in
theorem c_Jxf58ca_isNaN_12338 (l : Launch) (x0 : UInt32) : Met l yJxf58ca_isNaN_12338 wsJxf58ca_isNaN_12338 ({ frames := 0, cells := 0, slots := 0, locals := 0 }) (P0 [.float x0]) (k2_QcV (.int (fJxf58ca_isNaN_12338 x0))) 0 0 (fun _ => False) := by
  refine va_MetF (cc := cJxf58ca_isNaN_12338) (maxL := 1) (ret := (some .boolean)) (by decide +kernel) rfl ?_
  intro p e s m args below meth c s₁ B hml hv
  have hv2 : args = _ := hv
  subst hv2
  have hx := B.exec
  have hb := B.bytes
  have hr := B.returns
  have hts := atoms_spec (ws := wsJxf58ca_isNaN_12338) B.pre
  have hown : s.vm.findClass RJxf58ca = some m.cls := findClass_of_methodNamed B.named
  have hlocks := B.notSynchronized
  have hl := lv_entry ([.float x0]) (n := 1) (Nat.le_of_ble_eq_true rfl)
  rw [lg_entry_eq]
  generalize (lg_sl ([.float x0]) ++ List.replicate (1 - (lg_sl ([.float x0])).length) Slot.unset).toArray = ls at hl ⊢
  have hl : lv_has ls 1 [(0, .float x0)] := hl
  refine lv_fload_n hx hb dJxf58ca_isNaN_12338_0 rfl (lv_at hl 0 rfl) ?_
  refine lv_fload_n hx hb dJxf58ca_isNaN_12338_1 rfl (lv_at hl 0 rfl) ?_
  refine lv_fcmp hx hb dJxf58ca_isNaN_12338_2 ?_
  refine lv_if_eq (tgt := 10) hx hb dJxf58ca_isNaN_12338_3 (by decide) (fun c_1 => ?_) (fun c_1 => ?_)
  · refine lv_iconst (v := 0) hx hb dJxf58ca_isNaN_12338_10 (by decide) ?_
    exact W.zret hx hb hr (by decide) (fun t ht _ => ⟨congrArg (fun z => Outcome.returned (some (Value.int z))) (by unfold fJxf58ca_isNaN_12338; rw [if_pos c_1]), ht⟩) (fun _ h => nomatch h) dJxf58ca_isNaN_12338_11
  · refine lv_iconst (v := 1) hx hb dJxf58ca_isNaN_12338_6 (by decide) ?_
    refine lv_goto (tgt := 11) hx hb dJxf58ca_isNaN_12338_7 (by decide) ?_
    exact W.zret hx hb hr (by decide) (fun t ht _ => ⟨congrArg (fun z => Outcome.returned (some (Value.int z))) (by unfold fJxf58ca_isNaN_12338; rw [if_neg c_1]), ht⟩) (fun _ h => nomatch h) dJxf58ca_isNaN_12338_11
def fJxe99ae_doubleToLongBits_ccdee (x0 : UInt64) : Int64 :=
  if (fJxe99ae_isNaN_b9ae7 x0) = 0 then
    x0.toInt64
  else
    (9221120237041090560 : Int64)
theorem hd_Jxe99ae_doubleToLongBits_ccdee : yJxe99ae_doubleToLongBits_ccdee.cls ≠ "java/lang/invoke/MethodHandle" ∧ yJxe99ae_doubleToLongBits_ccdee.cls ≠ "java/lang/invoke/VarHandle" ∧ (parseMethodDescriptor yJxe99ae_doubleToLongBits_ccdee.desc).map (fun d => d.parameters.length) = some 1 := by decide +kernel
set_option maxHeartbeats 4000000 in
set_option maxRecDepth 100000 in
theorem c_Jxe99ae_doubleToLongBits_ccdee (l : Launch) (x0 : UInt64) : Met l yJxe99ae_doubleToLongBits_ccdee wsJxe99ae_doubleToLongBits_ccdee ({ frames := 1, cells := 0, slots := 0, locals := 21 }) (P0 [.double x0]) (k2_QcV (.long (fJxe99ae_doubleToLongBits_ccdee x0))) 0 0 (fun _ => False) := by
  refine va_MetF (cc := cJxe99ae_doubleToLongBits_ccdee) (maxL := 2) (ret := (some .long)) (by decide +kernel) rfl ?_
  intro p e s m args below meth c s₁ B hml hv
  have hv2 : args = _ := hv
  subst hv2
  have hx := B.exec
  have hb := B.bytes
  have hr := B.returns
  have hts := atoms_spec (ws := wsJxe99ae_doubleToLongBits_ccdee) B.pre
  have hown : s.vm.findClass RJxe99ae = some m.cls := findClass_of_methodNamed B.named
  have hlocks := B.notSynchronized
  have hl := lv_entry ([.double x0]) (n := 2) (Nat.le_of_ble_eq_true rfl)
  rw [lg_entry_eq]
  generalize (lg_sl ([.double x0]) ++ List.replicate (2 - (lg_sl ([.double x0])).length) Slot.unset).toArray = ls at hl ⊢
  have hl : lv_has ls 2 [(0, .double x0)] := hl
  refine lv_dload_n hx hb dJxe99ae_doubleToLongBits_ccdee_0 rfl (lv_at hl 0 rfl) ?_
  refine pc_0 (As := [.double x0]) (rest := []) (r := .int (fJxe99ae_isNaN_b9ae7 x0)) ⟨hx, hb, hml, hown, hts⟩ (c_Jxe99ae_isNaN_b9ae7 l x0) (va_cwS 1 hts gJxe99ae_doubleToLongBits_ccdee_Jxe99ae_isNaN_b9ae7 rfl rfl rfl hd_Jxe99ae_isNaN_b9ae7 ⟨Nat.le_of_ble_eq_true rfl, Nat.le_of_ble_eq_true rfl⟩) rfl hl.1 rfl (lv_room (Nat.le_of_ble_eq_true rfl)) dJxe99ae_doubleToLongBits_ccdee_1 ⟨Nat.zero_le _, Nat.zero_le _⟩ ?_
  refine lv_if_ne (tgt := 12) hx hb dJxe99ae_doubleToLongBits_ccdee_4 (by decide) (fun c_1 => ?_) (fun c_1 => ?_)
  · refine lv_ldc2 (v := (9221120237041090560)) hx hb hown (hts (.constantLong RJxe99ae 137 (9221120237041090560)) (by decide +kernel)) dJxe99ae_doubleToLongBits_ccdee_12 ?_
    exact W.lret hx hb hr (fun t ht _ => ⟨congrArg (fun z => Outcome.returned (some (Value.long z))) (by unfold fJxe99ae_doubleToLongBits_ccdee; rw [if_neg c_1]), ht⟩) (fun _ h => nomatch h) dJxe99ae_doubleToLongBits_ccdee_15
  · refine lv_dload_n hx hb dJxe99ae_doubleToLongBits_ccdee_7 rfl (lv_at hl 0 rfl) ?_
    refine vn_d2l hx hb (hml.trans hl.1.symm) hown (hts (.methodLink RJxe99ae 134 ⟨"java/lang/Double", "doubleToRawLongBits", "(D)J"⟩) (by decide +kernel)) (hts (.native ⟨"java/lang/Double", "doubleToRawLongBits", "(D)J"⟩) (by decide +kernel)) (hts (.static ⟨"java/lang/Double", "doubleToRawLongBits", "(D)J"⟩) (by decide +kernel)) (hts (.initialized "java/lang/Double") (by decide +kernel)) (Nat.le_of_ble_eq_true rfl) (Nat.le_of_ble_eq_true rfl) dJxe99ae_doubleToLongBits_ccdee_8 ?_
    exact W.lret hx hb hr (fun t ht _ => ⟨congrArg (fun z => Outcome.returned (some (Value.long z))) (by unfold fJxe99ae_doubleToLongBits_ccdee; rw [if_pos c_1]), ht⟩) (fun _ h => nomatch h) dJxe99ae_doubleToLongBits_ccdee_11
def fJxf58ca_floatToIntBits_5c35a (x0 : UInt32) : Int32 :=
  if (fJxf58ca_isNaN_12338 x0) = 0 then
    x0.toInt32
  else
    (2143289344 : Int32)
theorem hd_Jxf58ca_floatToIntBits_5c35a : yJxf58ca_floatToIntBits_5c35a.cls ≠ "java/lang/invoke/MethodHandle" ∧ yJxf58ca_floatToIntBits_5c35a.cls ≠ "java/lang/invoke/VarHandle" ∧ (parseMethodDescriptor yJxf58ca_floatToIntBits_5c35a.desc).map (fun d => d.parameters.length) = some 1 := by decide +kernel
set_option maxHeartbeats 4000000 in
set_option maxRecDepth 100000 in
theorem c_Jxf58ca_floatToIntBits_5c35a (l : Launch) (x0 : UInt32) : Met l yJxf58ca_floatToIntBits_5c35a wsJxf58ca_floatToIntBits_5c35a ({ frames := 1, cells := 0, slots := 0, locals := 20 }) (P0 [.float x0]) (k2_QcV (.int (fJxf58ca_floatToIntBits_5c35a x0))) 0 0 (fun _ => False) := by
  refine va_MetF (cc := cJxf58ca_floatToIntBits_5c35a) (maxL := 1) (ret := (some .int)) (by decide +kernel) rfl ?_
  intro p e s m args below meth c s₁ B hml hv
  have hv2 : args = _ := hv
  subst hv2
  have hx := B.exec
  have hb := B.bytes
  have hr := B.returns
  have hts := atoms_spec (ws := wsJxf58ca_floatToIntBits_5c35a) B.pre
  have hown : s.vm.findClass RJxf58ca = some m.cls := findClass_of_methodNamed B.named
  have hlocks := B.notSynchronized
  have hl := lv_entry ([.float x0]) (n := 1) (Nat.le_of_ble_eq_true rfl)
  rw [lg_entry_eq]
  generalize (lg_sl ([.float x0]) ++ List.replicate (1 - (lg_sl ([.float x0])).length) Slot.unset).toArray = ls at hl ⊢
  have hl : lv_has ls 1 [(0, .float x0)] := hl
  refine lv_fload_n hx hb dJxf58ca_floatToIntBits_5c35a_0 rfl (lv_at hl 0 rfl) ?_
  refine pc_0 (As := [.float x0]) (rest := []) (r := .int (fJxf58ca_isNaN_12338 x0)) ⟨hx, hb, hml, hown, hts⟩ (c_Jxf58ca_isNaN_12338 l x0) (va_cwS 1 hts gJxf58ca_floatToIntBits_5c35a_Jxf58ca_isNaN_12338 rfl rfl rfl hd_Jxf58ca_isNaN_12338 ⟨Nat.le_of_ble_eq_true rfl, Nat.le_of_ble_eq_true rfl⟩) rfl hl.1 rfl (lv_room (Nat.le_of_ble_eq_true rfl)) dJxf58ca_floatToIntBits_5c35a_1 ⟨Nat.zero_le _, Nat.zero_le _⟩ ?_
  refine lv_if_ne (tgt := 12) hx hb dJxf58ca_floatToIntBits_5c35a_4 (by decide) (fun c_1 => ?_) (fun c_1 => ?_)
  · refine lv_ldc (v := (2143289344)) hx hb hown (hts (.constant RJxf58ca 77 (2143289344)) (by decide +kernel)) dJxf58ca_floatToIntBits_5c35a_12 ?_
    exact W.iret hx hb hr (fun t ht _ => ⟨congrArg (fun z => Outcome.returned (some (Value.int z))) (by unfold fJxf58ca_floatToIntBits_5c35a; rw [if_neg c_1]), ht⟩) (fun _ h => nomatch h) dJxf58ca_floatToIntBits_5c35a_14
  · refine lv_fload_n hx hb dJxf58ca_floatToIntBits_5c35a_7 rfl (lv_at hl 0 rfl) ?_
    refine vn_f2i hx hb (hml.trans hl.1.symm) hown (hts (.methodLink RJxf58ca 74 ⟨"java/lang/Float", "floatToRawIntBits", "(F)I"⟩) (by decide +kernel)) (hts (.native ⟨"java/lang/Float", "floatToRawIntBits", "(F)I"⟩) (by decide +kernel)) (hts (.static ⟨"java/lang/Float", "floatToRawIntBits", "(F)I"⟩) (by decide +kernel)) (hts (.initialized "java/lang/Float") (by decide +kernel)) (Nat.le_of_ble_eq_true rfl) (Nat.le_of_ble_eq_true rfl) dJxf58ca_floatToIntBits_5c35a_8 ?_
    exact W.iret hx hb hr (fun t ht _ => ⟨congrArg (fun z => Outcome.returned (some (Value.int z))) (by unfold fJxf58ca_floatToIntBits_5c35a; rw [if_pos c_1]), ht⟩) (fun _ h => nomatch h) dJxf58ca_floatToIntBits_5c35a_11
def fX3_sum (x0 : Int32) (x1 : Int64) (x3 : Int64) : Int64 :=
  if x0 = 0 then
    (fJxf58ca_floatToIntBits_5c35a (FP.fadd x1.toInt32.toUInt32 x3.toInt32.toUInt32)).toInt64
  else
    fJxe99ae_doubleToLongBits_ccdee (FP.dadd x1.toUInt64 x3.toUInt64)
theorem hd_X3_sum : yX3_sum.cls ≠ "java/lang/invoke/MethodHandle" ∧ yX3_sum.cls ≠ "java/lang/invoke/VarHandle" ∧ (parseMethodDescriptor yX3_sum.desc).map (fun d => d.parameters.length) = some 3 := by decide +kernel
set_option maxHeartbeats 4000000 in
set_option maxRecDepth 100000 in
theorem c_X3_sum (l : Launch) (x0 : Int32) (x1 : Int64) (x3 : Int64) (hF : ¬ x0 = 0 → vn_snl2d x1 = false ∧ vn_snl2d x3 = false ∧ vf_n64 (FP.dadd x1.toUInt64 x3.toUInt64)) (hC : x0 = 0 → vn_sni2f x1.toInt32 = false ∧ vn_sni2f x3.toInt32 = false ∧ vf_n32 (FP.fadd x1.toInt32.toUInt32 x3.toInt32.toUInt32)) : Met l yX3_sum wsX3_sum ({ frames := 2, cells := 0, slots := 0, locals := 42 }) (P0 [.int x0, .long x1, .long x3]) (k2_QcV (.long (fX3_sum x0 x1 x3))) 0 0 (fun _ => False) := by
  refine Met.ofW (cc := cX3_sum) (maxL := 5) (ret := (some .long)) (by decide) rfl ?_
  intro p e s m args below meth c s₁ B hml hv
  have hv2 : args = _ := hv
  subst hv2
  have hx := B.exec
  have hb := B.bytes
  have hr := B.returns
  have hts := atoms_spec (ws := wsX3_sum) B.pre
  have hown : s.vm.findClass RX3 = some m.cls := findClass_of_methodNamed B.named
  have hlocks := B.notSynchronized
  have hl := lv_entry ([.int x0, .long x1, .long x3]) (n := 5) (Nat.le_of_ble_eq_true rfl)
  rw [lg_entry_eq]
  generalize (lg_sl ([.int x0, .long x1, .long x3]) ++ List.replicate (5 - (lg_sl ([.int x0, .long x1, .long x3])).length) Slot.unset).toArray = ls at hl ⊢
  have hl : lv_has ls 5 [(0, .int x0), (1, .long x1), (3, .long x3)] := hl
  refine lv_iload_n hx hb dX3_sum_0 rfl (lv_at hl 0 rfl) ?_
  refine lv_if_eq (tgt := 17) hx hb dX3_sum_1 (by decide) (fun c_1 => ?_) (fun c_1 => ?_)
  · refine lv_lload_n hx hb dX3_sum_17 rfl (lv_at hl 1 rfl) ?_
    refine lv_l2i hx hb dX3_sum_18 rfl ?_
    refine vn_i2f hx hb (hml.trans hl.1.symm) hown (hts (.methodLink RX3 39 ⟨"java/lang/Float", "intBitsToFloat", "(I)F"⟩) (by decide +kernel)) (hts (.native ⟨"java/lang/Float", "intBitsToFloat", "(I)F"⟩) (by decide +kernel)) (hts (.static ⟨"java/lang/Float", "intBitsToFloat", "(I)F"⟩) (by decide +kernel)) (hts (.initialized "java/lang/Float") (by decide +kernel)) (hC c_1).1 (Nat.le_of_ble_eq_true rfl) (Nat.le_of_ble_eq_true rfl) dX3_sum_19 ?_
    refine lv_lload_n hx hb dX3_sum_22 rfl (lv_at hl 2 rfl) ?_
    refine lv_l2i hx hb dX3_sum_23 rfl ?_
    refine vn_i2f hx hb (hml.trans hl.1.symm) hown (hts (.methodLink RX3 39 ⟨"java/lang/Float", "intBitsToFloat", "(I)F"⟩) (by decide +kernel)) (hts (.native ⟨"java/lang/Float", "intBitsToFloat", "(I)F"⟩) (by decide +kernel)) (hts (.static ⟨"java/lang/Float", "intBitsToFloat", "(I)F"⟩) (by decide +kernel)) (hts (.initialized "java/lang/Float") (by decide +kernel)) (hC c_1).2.1 (Nat.le_of_ble_eq_true rfl) (Nat.le_of_ble_eq_true rfl) dX3_sum_24 ?_
    refine lv_fadd hx hb dX3_sum_27 (hC c_1).2.2 ?_
    refine pc_0 (As := [.float (FP.fadd x1.toInt32.toUInt32 x3.toInt32.toUInt32)]) (rest := []) (r := .int (fJxf58ca_floatToIntBits_5c35a (FP.fadd x1.toInt32.toUInt32 x3.toInt32.toUInt32))) ⟨hx, hb, hml, hown, hts⟩ (c_Jxf58ca_floatToIntBits_5c35a l (FP.fadd x1.toInt32.toUInt32 x3.toInt32.toUInt32)) (va_cwS 1 hts gX3_sum_Jxf58ca_floatToIntBits_5c35a rfl rfl rfl hd_Jxf58ca_floatToIntBits_5c35a ⟨Nat.le_of_ble_eq_true rfl, Nat.le_of_ble_eq_true rfl⟩) rfl hl.1 rfl (lv_room (Nat.le_of_ble_eq_true rfl)) dX3_sum_28 ⟨Nat.zero_le _, Nat.zero_le _⟩ ?_
    refine lv_i2l hx hb dX3_sum_31 rfl ?_
    exact W.lret hx hb hr (fun t ht _ => ⟨congrArg (fun z => Outcome.returned (some (Value.long z))) (by unfold fX3_sum; rw [if_pos c_1]), ht⟩) (fun _ h => nomatch h) dX3_sum_32
  · refine lv_lload_n hx hb dX3_sum_4 rfl (lv_at hl 1 rfl) ?_
    refine vn_l2d hx hb (hml.trans hl.1.symm) hown (hts (.methodLink RX3 51 ⟨"java/lang/Double", "longBitsToDouble", "(J)D"⟩) (by decide +kernel)) (hts (.native ⟨"java/lang/Double", "longBitsToDouble", "(J)D"⟩) (by decide +kernel)) (hts (.static ⟨"java/lang/Double", "longBitsToDouble", "(J)D"⟩) (by decide +kernel)) (hts (.initialized "java/lang/Double") (by decide +kernel)) (hF c_1).1 (Nat.le_of_ble_eq_true rfl) (Nat.le_of_ble_eq_true rfl) dX3_sum_5 ?_
    refine lv_lload_n hx hb dX3_sum_8 rfl (lv_at hl 2 rfl) ?_
    refine vn_l2d hx hb (hml.trans hl.1.symm) hown (hts (.methodLink RX3 51 ⟨"java/lang/Double", "longBitsToDouble", "(J)D"⟩) (by decide +kernel)) (hts (.native ⟨"java/lang/Double", "longBitsToDouble", "(J)D"⟩) (by decide +kernel)) (hts (.static ⟨"java/lang/Double", "longBitsToDouble", "(J)D"⟩) (by decide +kernel)) (hts (.initialized "java/lang/Double") (by decide +kernel)) (hF c_1).2.1 (Nat.le_of_ble_eq_true rfl) (Nat.le_of_ble_eq_true rfl) dX3_sum_9 ?_
    refine lv_dadd hx hb dX3_sum_12 (hF c_1).2.2 ?_
    refine pc_0 (As := [.double (FP.dadd x1.toUInt64 x3.toUInt64)]) (rest := []) (r := .long (fJxe99ae_doubleToLongBits_ccdee (FP.dadd x1.toUInt64 x3.toUInt64))) ⟨hx, hb, hml, hown, hts⟩ (c_Jxe99ae_doubleToLongBits_ccdee l (FP.dadd x1.toUInt64 x3.toUInt64)) (va_cwS 1 hts gX3_sum_Jxe99ae_doubleToLongBits_ccdee rfl rfl rfl hd_Jxe99ae_doubleToLongBits_ccdee ⟨Nat.le_of_ble_eq_true rfl, Nat.le_of_ble_eq_true rfl⟩) rfl hl.1 rfl (lv_room (Nat.le_of_ble_eq_true rfl)) dX3_sum_13 ⟨Nat.zero_le _, Nat.zero_le _⟩ ?_
    exact W.lret hx hb hr (fun t ht _ => ⟨congrArg (fun z => Outcome.returned (some (Value.long z))) (by unfold fX3_sum; rw [if_neg c_1]), ht⟩) (fun _ h => nomatch h) dX3_sum_16
def fX3_wideBits (x0 : Int32) (x1 : Int64) : Int64 :=
  if x0 = 0 then
    fJxe99ae_doubleToLongBits_ccdee (FP.f2d x1.toInt32.toUInt32)
  else
    x1
theorem hd_X3_wideBits : yX3_wideBits.cls ≠ "java/lang/invoke/MethodHandle" ∧ yX3_wideBits.cls ≠ "java/lang/invoke/VarHandle" ∧ (parseMethodDescriptor yX3_wideBits.desc).map (fun d => d.parameters.length) = some 2 := by decide +kernel
set_option maxHeartbeats 4000000 in
set_option maxRecDepth 100000 in
theorem c_X3_wideBits (l : Launch) (x0 : Int32) (x1 : Int64) (hC : x0 = 0 → vn_sni2f x1.toInt32 = false ∧ vf_n64 (FP.f2d x1.toInt32.toUInt32)) : Met l yX3_wideBits wsX3_wideBits ({ frames := 2, cells := 0, slots := 0, locals := 42 }) (P0 [.int x0, .long x1]) (k2_QcV (.long (fX3_wideBits x0 x1))) 0 0 (fun _ => False) := by
  refine Met.ofW (cc := cX3_wideBits) (maxL := 3) (ret := (some .long)) (by decide) rfl ?_
  intro p e s m args below meth c s₁ B hml hv
  have hv2 : args = _ := hv
  subst hv2
  have hx := B.exec
  have hb := B.bytes
  have hr := B.returns
  have hts := atoms_spec (ws := wsX3_wideBits) B.pre
  have hown : s.vm.findClass RX3 = some m.cls := findClass_of_methodNamed B.named
  have hlocks := B.notSynchronized
  have hl := lv_entry ([.int x0, .long x1]) (n := 3) (Nat.le_of_ble_eq_true rfl)
  rw [lg_entry_eq]
  generalize (lg_sl ([.int x0, .long x1]) ++ List.replicate (3 - (lg_sl ([.int x0, .long x1])).length) Slot.unset).toArray = ls at hl ⊢
  have hl : lv_has ls 3 [(0, .int x0), (1, .long x1)] := hl
  refine lv_iload_n hx hb dX3_wideBits_0 rfl (lv_at hl 0 rfl) ?_
  refine lv_if_eq (tgt := 8) hx hb dX3_wideBits_1 (by decide) (fun c_1 => ?_) (fun c_1 => ?_)
  · refine lv_lload_n hx hb dX3_wideBits_8 rfl (lv_at hl 1 rfl) ?_
    refine lv_l2i hx hb dX3_wideBits_9 rfl ?_
    refine vn_i2f hx hb (hml.trans hl.1.symm) hown (hts (.methodLink RX3 39 ⟨"java/lang/Float", "intBitsToFloat", "(I)F"⟩) (by decide +kernel)) (hts (.native ⟨"java/lang/Float", "intBitsToFloat", "(I)F"⟩) (by decide +kernel)) (hts (.static ⟨"java/lang/Float", "intBitsToFloat", "(I)F"⟩) (by decide +kernel)) (hts (.initialized "java/lang/Float") (by decide +kernel)) (hC c_1).1 (Nat.le_of_ble_eq_true rfl) (Nat.le_of_ble_eq_true rfl) dX3_wideBits_10 ?_
    refine lv_f2d hx hb dX3_wideBits_13 (hC c_1).2 ?_
    refine pc_0 (As := [.double (FP.f2d x1.toInt32.toUInt32)]) (rest := []) (r := .long (fJxe99ae_doubleToLongBits_ccdee (FP.f2d x1.toInt32.toUInt32))) ⟨hx, hb, hml, hown, hts⟩ (c_Jxe99ae_doubleToLongBits_ccdee l (FP.f2d x1.toInt32.toUInt32)) (va_cwS 1 hts gX3_wideBits_Jxe99ae_doubleToLongBits_ccdee rfl rfl rfl hd_Jxe99ae_doubleToLongBits_ccdee ⟨Nat.le_of_ble_eq_true rfl, Nat.le_of_ble_eq_true rfl⟩) rfl hl.1 rfl (lv_room (Nat.le_of_ble_eq_true rfl)) dX3_wideBits_14 ⟨Nat.zero_le _, Nat.zero_le _⟩ ?_
    exact W.lret hx hb hr (fun t ht _ => ⟨congrArg (fun z => Outcome.returned (some (Value.long z))) (by unfold fX3_wideBits; rw [if_pos c_1]), ht⟩) (fun _ h => nomatch h) dX3_wideBits_17
  · refine lv_lload_n hx hb dX3_wideBits_4 rfl (lv_at hl 1 rfl) ?_
    refine lv_goto (tgt := 17) hx hb dX3_wideBits_5 (by decide) ?_
    exact W.lret hx hb hr (fun t ht _ => ⟨congrArg (fun z => Outcome.returned (some (Value.long z))) (by unfold fX3_wideBits; rw [if_neg c_1]), ht⟩) (fun _ h => nomatch h) dX3_wideBits_17
def fX3_whole (x0 : UInt64) (x2 : Int32) (x3 : Int32) : UInt64 :=
  if (Op.cmpValue (FP.dcmp x0 (4841369599423283200 : UInt64)) .l) < 0 then
    if x3 = 0 then
      if x2 = 0 then
        FP.l2d (FP.d2l x0)
      else
        if (Op.cmpValue (FP.dcmp (FP.dsub x0 (FP.l2d (FP.d2l x0))) FP.dconst0) .l) ≤ 0 then
          FP.l2d (FP.d2l x0)
        else
          FP.dadd (FP.l2d (FP.d2l x0)) FP.dconst1
    else
      if x3 = (1 : Int32) then
        if x2 = 0 then
          if (Op.cmpValue (FP.dcmp (FP.dsub x0 (FP.l2d (FP.d2l x0))) FP.dconst0) .l) ≤ 0 then
            FP.l2d (FP.d2l x0)
          else
            FP.dadd (FP.l2d (FP.d2l x0)) FP.dconst1
        else
          FP.l2d (FP.d2l x0)
      else
        if 0 < (Op.cmpValue (FP.dcmp (FP.dsub x0 (FP.l2d (FP.d2l x0))) (4602678819172646912 : UInt64)) .l) then
          FP.dadd (FP.l2d (FP.d2l x0)) FP.dconst1
        else
          if (Op.cmpValue (FP.dcmp (FP.dsub x0 (FP.l2d (FP.d2l x0))) (4602678819172646912 : UInt64)) .l) = 0 then
            if ((FP.d2l x0) &&& (1 : Int64)) = (1 : Int64) then
              FP.dadd (FP.l2d (FP.d2l x0)) FP.dconst1
            else
              FP.l2d (FP.d2l x0)
          else
            FP.l2d (FP.d2l x0)
  else
    x0
theorem hd_X3_whole : yX3_whole.cls ≠ "java/lang/invoke/MethodHandle" ∧ yX3_whole.cls ≠ "java/lang/invoke/VarHandle" ∧ (parseMethodDescriptor yX3_whole.desc).map (fun d => d.parameters.length) = some 3 := by decide +kernel
set_option maxHeartbeats 4000000 in
set_option maxRecDepth 100000 in
theorem c_X3_whole (l : Launch) (x0 : UInt64) (x2 : Int32) (x3 : Int32) (h : Op.cmpValue (FP.dcmp x0 4841369599423283200) .l < 0 → vf_n64 (FP.dsub x0 (FP.l2d (FP.d2l x0))) ∧ vf_n64 (FP.dadd (FP.l2d (FP.d2l x0)) FP.dconst1)) : Met l yX3_whole wsX3_whole ({ frames := 0, cells := 0, slots := 0, locals := 0 }) (P0 [.double x0, .int x2, .int x3]) (k2_QcV (.double (fX3_whole x0 x2 x3))) 0 0 (fun _ => False) := by
  refine Met.ofW (cc := cX3_whole) (maxL := 9) (ret := (some .double)) (by decide) rfl ?_
  intro p e s m args below meth c s₁ B hml hv
  have hv2 : args = _ := hv
  subst hv2
  have hx := B.exec
  have hb := B.bytes
  have hr := B.returns
  have hts := atoms_spec (ws := wsX3_whole) B.pre
  have hown : s.vm.findClass RX3 = some m.cls := findClass_of_methodNamed B.named
  have hlocks := B.notSynchronized
  have hl := lv_entry ([.double x0, .int x2, .int x3]) (n := 9) (Nat.le_of_ble_eq_true rfl)
  rw [lg_entry_eq]
  generalize (lg_sl ([.double x0, .int x2, .int x3]) ++ List.replicate (9 - (lg_sl ([.double x0, .int x2, .int x3])).length) Slot.unset).toArray = ls at hl ⊢
  have hl : lv_has ls 9 [(0, .double x0), (2, .int x2), (3, .int x3)] := hl
  refine lv_dload_n hx hb dX3_whole_0 rfl (lv_at hl 0 rfl) ?_
  refine lv_ldc2d (v := (4841369599423283200)) hx hb hown (hts (.constantDouble RX3 123 (4841369599423283200)) (by decide +kernel)) dX3_whole_1 ?_
  refine lv_dcmp hx hb dX3_whole_4 ?_
  refine lv_if_lt (tgt := 10) hx hb dX3_whole_5 (by decide) (fun c_1 => ?_) (fun c_1 => ?_)
  · refine lv_dload_n hx hb dX3_whole_10 rfl (lv_at hl 0 rfl) ?_
    refine lv_d2l hx hb dX3_whole_11 ?_
    refine lv_lstore (lv' := [(4, .long (FP.d2l x0)), (0, .double x0), (2, .int x2), (3, .int x3)]) hx hb dX3_whole_12 hl (by decide) rfl (fun ls hl => ?_)
    refine lv_dload_n hx hb dX3_whole_14 rfl (lv_at hl 1 rfl) ?_
    refine lv_lload hx hb dX3_whole_15 (lv_at hl 0 rfl) ?_
    refine lv_l2d hx hb dX3_whole_17 ?_
    refine lv_dsub hx hb dX3_whole_18 (h c_1).1 ?_
    refine lv_dstore (lv' := [(6, .double (FP.dsub x0 (FP.l2d (FP.d2l x0)))), (4, .long (FP.d2l x0)), (0, .double x0), (2, .int x2), (3, .int x3)]) hx hb dX3_whole_19 hl (by decide) rfl (fun ls hl => ?_)
    refine lv_iload_n hx hb dX3_whole_21 rfl (lv_at hl 4 rfl) ?_
    refine lv_if_ne (tgt := 44) hx hb dX3_whole_22 (by decide) (fun c_2 => ?_) (fun c_2 => ?_)
    · refine lv_iload_n hx hb dX3_whole_44 rfl (lv_at hl 4 rfl) ?_
      refine lv_iconst (v := 1) hx hb dX3_whole_45 (by decide) ?_
      refine lv_icmp_ne (tgt := 68) hx hb dX3_whole_46 (by decide) (fun c_3 => ?_) (fun c_3 => ?_)
      · refine lv_dload hx hb dX3_whole_68 (lv_at hl 0 rfl) ?_
        refine lv_ldc2d (v := (4602678819172646912)) hx hb hown (hts (.constantDouble RX3 125 (4602678819172646912)) (by decide +kernel)) dX3_whole_70 ?_
        refine lv_dcmp hx hb dX3_whole_73 ?_
        refine lv_if_gt (tgt := 95) hx hb dX3_whole_74 (by decide) (fun c_4 => ?_) (fun c_4 => ?_)
        · refine lv_iconst (v := 1) hx hb dX3_whole_95 (by decide) ?_
          refine lv_goto (tgt := 100) hx hb dX3_whole_96 (by decide) ?_
          refine lv_istore (lv' := [(8, .int (1 : Int32)), (6, .double (FP.dsub x0 (FP.l2d (FP.d2l x0)))), (4, .long (FP.d2l x0)), (0, .double x0), (2, .int x2), (3, .int x3)]) hx hb dX3_whole_100 hl (by decide) rfl (fun ls hl => ?_)
          refine lv_iload hx hb dX3_whole_102 (lv_at hl 0 rfl) ?_
          refine lv_if_eq (tgt := 115) hx hb dX3_whole_104 (by decide) (fun h9 => absurd h9 (by decide)) (fun _ => ?_)
          refine lv_lload hx hb dX3_whole_107 (lv_at hl 2 rfl) ?_
          refine lv_l2d hx hb dX3_whole_109 ?_
          refine lv_dconst1 hx hb dX3_whole_110 ?_
          refine lv_dadd hx hb dX3_whole_111 (h c_1).2 ?_
          refine lv_goto (tgt := 118) hx hb dX3_whole_112 (by decide) ?_
          exact W.dret hx hb hr (fun t ht _ => ⟨congrArg (fun z => Outcome.returned (some (Value.double z))) (by unfold fX3_whole; rw [if_pos c_1, if_neg c_2, if_neg c_3, if_pos c_4]), ht⟩) (fun _ h => nomatch h) dX3_whole_118
        · refine lv_dload hx hb dX3_whole_77 (lv_at hl 0 rfl) ?_
          refine lv_ldc2d (v := (4602678819172646912)) hx hb hown (hts (.constantDouble RX3 125 (4602678819172646912)) (by decide +kernel)) dX3_whole_79 ?_
          refine lv_dcmp hx hb dX3_whole_82 ?_
          refine lv_if_ne (tgt := 99) hx hb dX3_whole_83 (by decide) (fun c_5 => ?_) (fun c_5 => ?_)
          · refine lv_iconst (v := 0) hx hb dX3_whole_99 (by decide) ?_
            refine lv_istore (lv' := [(8, .int (0 : Int32)), (6, .double (FP.dsub x0 (FP.l2d (FP.d2l x0)))), (4, .long (FP.d2l x0)), (0, .double x0), (2, .int x2), (3, .int x3)]) hx hb dX3_whole_100 hl (by decide) rfl (fun ls hl => ?_)
            refine lv_iload hx hb dX3_whole_102 (lv_at hl 0 rfl) ?_
            refine lv_if_eq (tgt := 115) hx hb dX3_whole_104 (by decide) (fun _ => ?_) (fun h9 => absurd h9 (by decide))
            refine lv_lload hx hb dX3_whole_115 (lv_at hl 2 rfl) ?_
            refine lv_l2d hx hb dX3_whole_117 ?_
            exact W.dret hx hb hr (fun t ht _ => ⟨congrArg (fun z => Outcome.returned (some (Value.double z))) (by unfold fX3_whole; rw [if_pos c_1, if_neg c_2, if_neg c_3, if_neg c_4, if_neg c_5]), ht⟩) (fun _ h => nomatch h) dX3_whole_118
          · refine lv_lload hx hb dX3_whole_86 (lv_at hl 1 rfl) ?_
            refine lv_lconst (v := 1) hx hb dX3_whole_88 (by decide) ?_
            refine lv_land hx hb dX3_whole_89 ?_
            refine lv_lconst (v := 1) hx hb dX3_whole_90 (by decide) ?_
            refine pl_ne (tgt := 99) hx hb dX3_whole_91 dX3_whole_92 (by decide) (fun c_6 => ?_) (fun c_6 => ?_)
            · refine lv_iconst (v := 0) hx hb dX3_whole_99 (by decide) ?_
              refine lv_istore (lv' := [(8, .int (0 : Int32)), (6, .double (FP.dsub x0 (FP.l2d (FP.d2l x0)))), (4, .long (FP.d2l x0)), (0, .double x0), (2, .int x2), (3, .int x3)]) hx hb dX3_whole_100 hl (by decide) rfl (fun ls hl => ?_)
              refine lv_iload hx hb dX3_whole_102 (lv_at hl 0 rfl) ?_
              refine lv_if_eq (tgt := 115) hx hb dX3_whole_104 (by decide) (fun _ => ?_) (fun h9 => absurd h9 (by decide))
              refine lv_lload hx hb dX3_whole_115 (lv_at hl 2 rfl) ?_
              refine lv_l2d hx hb dX3_whole_117 ?_
              exact W.dret hx hb hr (fun t ht _ => ⟨congrArg (fun z => Outcome.returned (some (Value.double z))) (by unfold fX3_whole; rw [if_pos c_1, if_neg c_2, if_neg c_3, if_neg c_4, if_pos c_5, if_neg c_6]), ht⟩) (fun _ h => nomatch h) dX3_whole_118
            · refine lv_iconst (v := 1) hx hb dX3_whole_95 (by decide) ?_
              refine lv_goto (tgt := 100) hx hb dX3_whole_96 (by decide) ?_
              refine lv_istore (lv' := [(8, .int (1 : Int32)), (6, .double (FP.dsub x0 (FP.l2d (FP.d2l x0)))), (4, .long (FP.d2l x0)), (0, .double x0), (2, .int x2), (3, .int x3)]) hx hb dX3_whole_100 hl (by decide) rfl (fun ls hl => ?_)
              refine lv_iload hx hb dX3_whole_102 (lv_at hl 0 rfl) ?_
              refine lv_if_eq (tgt := 115) hx hb dX3_whole_104 (by decide) (fun h9 => absurd h9 (by decide)) (fun _ => ?_)
              refine lv_lload hx hb dX3_whole_107 (lv_at hl 2 rfl) ?_
              refine lv_l2d hx hb dX3_whole_109 ?_
              refine lv_dconst1 hx hb dX3_whole_110 ?_
              refine lv_dadd hx hb dX3_whole_111 (h c_1).2 ?_
              refine lv_goto (tgt := 118) hx hb dX3_whole_112 (by decide) ?_
              exact W.dret hx hb hr (fun t ht _ => ⟨congrArg (fun z => Outcome.returned (some (Value.double z))) (by unfold fX3_whole; rw [if_pos c_1, if_neg c_2, if_neg c_3, if_neg c_4, if_pos c_5, if_pos c_6]), ht⟩) (fun _ h => nomatch h) dX3_whole_118
      · refine lv_iload_n hx hb dX3_whole_49 rfl (lv_at hl 3 rfl) ?_
        refine lv_if_ne (tgt := 64) hx hb dX3_whole_50 (by decide) (fun c_7 => ?_) (fun c_7 => ?_)
        · refine lv_iconst (v := 0) hx hb dX3_whole_64 (by decide) ?_
          refine lv_goto (tgt := 100) hx hb dX3_whole_65 (by decide) ?_
          refine lv_istore (lv' := [(8, .int (0 : Int32)), (6, .double (FP.dsub x0 (FP.l2d (FP.d2l x0)))), (4, .long (FP.d2l x0)), (0, .double x0), (2, .int x2), (3, .int x3)]) hx hb dX3_whole_100 hl (by decide) rfl (fun ls hl => ?_)
          refine lv_iload hx hb dX3_whole_102 (lv_at hl 0 rfl) ?_
          refine lv_if_eq (tgt := 115) hx hb dX3_whole_104 (by decide) (fun _ => ?_) (fun h9 => absurd h9 (by decide))
          refine lv_lload hx hb dX3_whole_115 (lv_at hl 2 rfl) ?_
          refine lv_l2d hx hb dX3_whole_117 ?_
          exact W.dret hx hb hr (fun t ht _ => ⟨congrArg (fun z => Outcome.returned (some (Value.double z))) (by unfold fX3_whole; rw [if_pos c_1, if_neg c_2, if_pos c_3, if_neg c_7]), ht⟩) (fun _ h => nomatch h) dX3_whole_118
        · refine lv_dload hx hb dX3_whole_53 (lv_at hl 0 rfl) ?_
          refine lv_dconst0 hx hb dX3_whole_55 ?_
          refine lv_dcmp hx hb dX3_whole_56 ?_
          refine lv_if_le (tgt := 64) hx hb dX3_whole_57 (by decide) (fun c_8 => ?_) (fun c_8 => ?_)
          · refine lv_iconst (v := 0) hx hb dX3_whole_64 (by decide) ?_
            refine lv_goto (tgt := 100) hx hb dX3_whole_65 (by decide) ?_
            refine lv_istore (lv' := [(8, .int (0 : Int32)), (6, .double (FP.dsub x0 (FP.l2d (FP.d2l x0)))), (4, .long (FP.d2l x0)), (0, .double x0), (2, .int x2), (3, .int x3)]) hx hb dX3_whole_100 hl (by decide) rfl (fun ls hl => ?_)
            refine lv_iload hx hb dX3_whole_102 (lv_at hl 0 rfl) ?_
            refine lv_if_eq (tgt := 115) hx hb dX3_whole_104 (by decide) (fun _ => ?_) (fun h9 => absurd h9 (by decide))
            refine lv_lload hx hb dX3_whole_115 (lv_at hl 2 rfl) ?_
            refine lv_l2d hx hb dX3_whole_117 ?_
            exact W.dret hx hb hr (fun t ht _ => ⟨congrArg (fun z => Outcome.returned (some (Value.double z))) (by unfold fX3_whole; rw [if_pos c_1, if_neg c_2, if_pos c_3, if_pos c_7, if_pos c_8]), ht⟩) (fun _ h => nomatch h) dX3_whole_118
          · refine lv_iconst (v := 1) hx hb dX3_whole_60 (by decide) ?_
            refine lv_goto (tgt := 100) hx hb dX3_whole_61 (by decide) ?_
            refine lv_istore (lv' := [(8, .int (1 : Int32)), (6, .double (FP.dsub x0 (FP.l2d (FP.d2l x0)))), (4, .long (FP.d2l x0)), (0, .double x0), (2, .int x2), (3, .int x3)]) hx hb dX3_whole_100 hl (by decide) rfl (fun ls hl => ?_)
            refine lv_iload hx hb dX3_whole_102 (lv_at hl 0 rfl) ?_
            refine lv_if_eq (tgt := 115) hx hb dX3_whole_104 (by decide) (fun h9 => absurd h9 (by decide)) (fun _ => ?_)
            refine lv_lload hx hb dX3_whole_107 (lv_at hl 2 rfl) ?_
            refine lv_l2d hx hb dX3_whole_109 ?_
            refine lv_dconst1 hx hb dX3_whole_110 ?_
            refine lv_dadd hx hb dX3_whole_111 (h c_1).2 ?_
            refine lv_goto (tgt := 118) hx hb dX3_whole_112 (by decide) ?_
            exact W.dret hx hb hr (fun t ht _ => ⟨congrArg (fun z => Outcome.returned (some (Value.double z))) (by unfold fX3_whole; rw [if_pos c_1, if_neg c_2, if_pos c_3, if_pos c_7, if_neg c_8]), ht⟩) (fun _ h => nomatch h) dX3_whole_118
    · refine lv_iload_n hx hb dX3_whole_25 rfl (lv_at hl 3 rfl) ?_
      refine lv_if_eq (tgt := 40) hx hb dX3_whole_26 (by decide) (fun c_9 => ?_) (fun c_9 => ?_)
      · refine lv_iconst (v := 0) hx hb dX3_whole_40 (by decide) ?_
        refine lv_goto (tgt := 100) hx hb dX3_whole_41 (by decide) ?_
        refine lv_istore (lv' := [(8, .int (0 : Int32)), (6, .double (FP.dsub x0 (FP.l2d (FP.d2l x0)))), (4, .long (FP.d2l x0)), (0, .double x0), (2, .int x2), (3, .int x3)]) hx hb dX3_whole_100 hl (by decide) rfl (fun ls hl => ?_)
        refine lv_iload hx hb dX3_whole_102 (lv_at hl 0 rfl) ?_
        refine lv_if_eq (tgt := 115) hx hb dX3_whole_104 (by decide) (fun _ => ?_) (fun h9 => absurd h9 (by decide))
        refine lv_lload hx hb dX3_whole_115 (lv_at hl 2 rfl) ?_
        refine lv_l2d hx hb dX3_whole_117 ?_
        exact W.dret hx hb hr (fun t ht _ => ⟨congrArg (fun z => Outcome.returned (some (Value.double z))) (by unfold fX3_whole; rw [if_pos c_1, if_pos c_2, if_pos c_9]), ht⟩) (fun _ h => nomatch h) dX3_whole_118
      · refine lv_dload hx hb dX3_whole_29 (lv_at hl 0 rfl) ?_
        refine lv_dconst0 hx hb dX3_whole_31 ?_
        refine lv_dcmp hx hb dX3_whole_32 ?_
        refine lv_if_le (tgt := 40) hx hb dX3_whole_33 (by decide) (fun c_10 => ?_) (fun c_10 => ?_)
        · refine lv_iconst (v := 0) hx hb dX3_whole_40 (by decide) ?_
          refine lv_goto (tgt := 100) hx hb dX3_whole_41 (by decide) ?_
          refine lv_istore (lv' := [(8, .int (0 : Int32)), (6, .double (FP.dsub x0 (FP.l2d (FP.d2l x0)))), (4, .long (FP.d2l x0)), (0, .double x0), (2, .int x2), (3, .int x3)]) hx hb dX3_whole_100 hl (by decide) rfl (fun ls hl => ?_)
          refine lv_iload hx hb dX3_whole_102 (lv_at hl 0 rfl) ?_
          refine lv_if_eq (tgt := 115) hx hb dX3_whole_104 (by decide) (fun _ => ?_) (fun h9 => absurd h9 (by decide))
          refine lv_lload hx hb dX3_whole_115 (lv_at hl 2 rfl) ?_
          refine lv_l2d hx hb dX3_whole_117 ?_
          exact W.dret hx hb hr (fun t ht _ => ⟨congrArg (fun z => Outcome.returned (some (Value.double z))) (by unfold fX3_whole; rw [if_pos c_1, if_pos c_2, if_neg c_9, if_pos c_10]), ht⟩) (fun _ h => nomatch h) dX3_whole_118
        · refine lv_iconst (v := 1) hx hb dX3_whole_36 (by decide) ?_
          refine lv_goto (tgt := 100) hx hb dX3_whole_37 (by decide) ?_
          refine lv_istore (lv' := [(8, .int (1 : Int32)), (6, .double (FP.dsub x0 (FP.l2d (FP.d2l x0)))), (4, .long (FP.d2l x0)), (0, .double x0), (2, .int x2), (3, .int x3)]) hx hb dX3_whole_100 hl (by decide) rfl (fun ls hl => ?_)
          refine lv_iload hx hb dX3_whole_102 (lv_at hl 0 rfl) ?_
          refine lv_if_eq (tgt := 115) hx hb dX3_whole_104 (by decide) (fun h9 => absurd h9 (by decide)) (fun _ => ?_)
          refine lv_lload hx hb dX3_whole_107 (lv_at hl 2 rfl) ?_
          refine lv_l2d hx hb dX3_whole_109 ?_
          refine lv_dconst1 hx hb dX3_whole_110 ?_
          refine lv_dadd hx hb dX3_whole_111 (h c_1).2 ?_
          refine lv_goto (tgt := 118) hx hb dX3_whole_112 (by decide) ?_
          exact W.dret hx hb hr (fun t ht _ => ⟨congrArg (fun z => Outcome.returned (some (Value.double z))) (by unfold fX3_whole; rw [if_pos c_1, if_pos c_2, if_neg c_9, if_neg c_10]), ht⟩) (fun _ h => nomatch h) dX3_whole_118
  · refine lv_dload_n hx hb dX3_whole_8 rfl (lv_at hl 0 rfl) ?_
    exact W.dret hx hb hr (fun t ht _ => ⟨congrArg (fun z => Outcome.returned (some (Value.double z))) (by unfold fX3_whole; rw [if_neg c_1]), ht⟩) (fun _ h => nomatch h) dX3_whole_9
end
section
/-! THE WORLD: the addresses L of the objects that the law has made, and what each holds (g), as a map. -/
def PA (L : List Nat) (n : Nat) : Nat → Prop := fun q => q ∈ L ∨ n ≤ q
/-- the two statics of Throwable that a throw reads -/
def TC (A : Nat → Prop) (U : State) (H : Heap) : Prop := vx_Zq Bundle.tN "UNASSIGNED_STACK" Bundle.steD A U H ∧ vx_Zq Bundle.tN "SUPPRESSED_SENTINEL" Bundle.listD A U H
theorem TC.moved {A : Nat → Prop} {u U : State} {H : Heap} (hvm : u.vm.Alike U.vm) (h : TC A u H) : TC A U H := ⟨h.1.moved hvm, h.2.moved hvm⟩
theorem TC.kept {A : Nat → Prop} {U : State} {H H1 : Heap} (h : TC A U H) (hq : ∀ a : Nat, a < H.size → ¬ A a → H1[a]? = H[a]?) : TC A U H1 := ⟨h.1.kept hq, h.2.kept hq⟩
theorem TC.narrow {A B : Nat → Prop} {U : State} {H : Heap} (h : TC A U H) (hAB : ∀ q, B q → A q) : TC B U H := ⟨h.1.narrow hAB, h.2.narrow hAB⟩
/-- the texts of NeedleBoard's exceptions, and which exceptions aren't which -/
def XS (U : State) : Prop := (∀ q ∈ [(34, "the low limit is above the high one"), (45, "the board is full"), (72, "opposite infinities have no sum"), (91, "there is no such way to rest"), (118, "there is no such thing to read"), (120, "the needles are of two kinds"), (136, "there is no such thing between needles"), (145, "there is no such way to tally"), (163, "there is no such needle"), (173, "these bits tell no number")], ∃ sa : Nat, vk_R RX2 q.1 q.2 sa U) ∧
  ∀ q ∈ [("java/lang/IllegalArgumentException", "java/util/NoSuchElementException"), ("java/lang/IllegalStateException", "java/util/NoSuchElementException"), ("java/lang/IllegalStateException", "java/lang/IllegalArgumentException")], va_Nc q.1 q.2 U
theorem XS.warm {s U : State} (hW : s.WarmedH U.vm) (h : XS s) : XS U := ⟨fun q hq => by obtain ⟨sa, h1⟩ := h.1 q hq; exact ⟨sa, vk_R.warm hW h1⟩, fun q hq => (h.2 q hq).moved hW.alike⟩
def WW (D : va_G) (tys : List (ClassId × FieldType)) (ad : Nat → Nat) (L : List Nat) (g : Nat → va_E) (U : State) : Prop :=
  va_P D vwCl (va_pl L g) U.heap ∧ va_K D vwCl tys U ∧ va_D (PA L U.heap.size) (va_pl L g) ∧ KC ad (PA L U.heap.size) U U.heap ∧ TC (PA L U.heap.size) U U.heap ∧ XS U
theorem pl_in {L : List Nat} {g : Nat → va_E} {k : Nat} {q : Nat × va_E} (h : (va_pl L g)[k]? = some q) : q.1 ∈ L := by
  obtain ⟨a, ha, he⟩ := List.mem_map.mp (List.mem_of_getElem? h)
  rw [← he]; exact ha
/-- the world, seen at a call -/
theorem WW.mk {D : va_G} {tys : List (ClassId × FieldType)} {ad : Nat → Nat} {L : List Nat} {g : Nat → va_E} {A : Nat → Prop} {s : State} {H : Heap} {locs : List Loc} (hP : va_P D vwCl (va_pl L g) H) (hK : va_K D vwCl tys s) (hD : va_D A (va_pl L g)) (hKC : KC ad A s s.heap) (hTC : TC A s s.heap) (hXS : XS s)
    (hS : va_S A s.heap H locs) (hLA : ∀ q ∈ L, A q) (hA : ∀ q, s.heap.size ≤ q → A q) {U : State} (hU : U.heap = H) (hW : s.WarmedH U.vm) : WW D tys ad L g U := by
  have hn : ∀ q, PA L H.size q → A q := fun q h => h.elim (hLA q) (fun h => hA q (Nat.le_trans hS.1 h))
  refine ⟨by rw [hU]; exact hP, va_K.moved hW.alike hK, ?_, ?_, ?_, hXS.warm hW⟩
  · exact hD.weaken (fun _ _ h _ => Or.inl (pl_in h))
  · rw [hU]; exact ((hKC.kept hS.2.1).narrow hn).moved hW.alike
  · rw [hU]; exact ((hTC.kept hS.2.1).narrow hn).moved hW.alike
theorem WW.calling {D : va_G} {tys : List (ClassId × FieldType)} {ad : Nat → Nat} {L : List Nat} {g : Nat → va_E} {U : State} (h : WW D tys ad L g U) (f : JFrame) (mk : MethodId) (a : Array Value) : WW D tys ad L g (U.calling f mk a) := by
  obtain ⟨h1, h2, h3, h4, h5, h6⟩ := h
  exact ⟨h1, va_K.moved (u := U) (U := U.calling f mk a) (Vm.Alike.refl U.vm) h2, h3, KC.moved (u := U) (U := U.calling f mk a) (Vm.Alike.refl U.vm) h4, TC.moved (u := U) (U := U.calling f mk a) (Vm.Alike.refl U.vm) h5, XS.warm (s := U) (U := U.calling f mk a) (State.WarmedH.refl U) h6⟩
/-- a method's start in a world -/
def PW (D : va_G) (tys : List (ClassId × FieldType)) (ad : Nat → Nat) (L : List Nat) (g : Nat → va_E) (av : List Value) : Array Value → State → Prop := fun v U => v = av.toArray ∧ WW D tys ad L g U
theorem PW.blind (D : va_G) (tys : List (ClassId × FieldType)) (ad : Nat → Nat) (L : List Nat) (g : Nat → va_E) (av : List Value) : FrameBlind (PW D tys ad L g av) := fun _ _ _ _ h => ⟨h.1, h.2.calling _ _ _⟩
/-- its end: the answer, the world behind it, nothing else changed -/
def QW (D : va_G) (tys : List (ClassId × FieldType)) (ad : Nat → Nat) (L : List Nat) (r : Option Value) (g : Nat → va_E) : Array Value → State → Outcome → State → Prop := fun _ st o t => o = .returned r ∧ WW D tys ad L g t ∧ va_F (fun q => q ∈ L) st t
/-- .. or an exception: of the class E, the world as it was -/
def XW (D : va_G) (tys : List (ClassId × FieldType)) (ad : Nat → Nat) (L : List Nat) (g : Nat → va_E) (E : String) : String → State → State → Prop := fun E' st t => E' = E ∧ WW D tys ad L g t ∧ va_F (fun _ => False) st t
section HB
variable {p : Program} {l : Launch} {e : Env} {R : Room} {s : State} {m : MethodId} {args : Array Value} {below : List Frame} {meth : Method} {c : Code} {H : Heap} {locs : List Loc} {cells slots : Nat} {Q : State → Prop}
variable {cc : ByteArray} {pc : Nat} {ls : Array Slot} {rest st0 : List Value} {A : Nat → Prop} {ad : Nat → Nat} {D : va_G} {tys : List (ClassId × FieldType)} {L : List Nat} {g : Nat → va_E} {a : Nat}
variable {y : MethodName} {bytes : ByteArray} {maxL nL n index : Nat} {ret : Option FieldType} {ws Ts : List Cond} {rm : Room} {own C : String} {As : List Value}
theorem pg_at (hL : a ∈ L) {x : va_E} (hg : g a = x) : ∃ k : Nat, (va_pl L g)[k]? = some (a, x) := by
  obtain ⟨k, hk⟩ := va_pl_get (X := []) (f := g) hL
  exact ⟨k, by rw [← hg]; exact hk⟩
theorem pg_set {x x1 : va_E} {k : Nat} (hD : va_D A (va_pl L g)) (hL : a ∈ L) (hg : g a = x) (hk : (va_pl L g)[k]? = some (a, x)) : (va_pl L g).set k (a, x1) = va_pl L (va_up g a x1) := by
  have h := va_pl_set (X := []) (e := x1) hD hL (k := k) (by rw [hg]; exact hk)
  exact h
/-- getfield of an object of the world -/
theorem pg_get (hx : p.tables.exec = Jvm.exec) (hb : c.code = cc) {T : u_T} {N ci : Nat} (hts : ∀ w ∈ Ts, w.before args s = true) (hin : ∀ w ∈ u_ws C T N, w ∈ Ts) (hown : s.vm.findClass own = some m.cls) (hK : va_K D vwCl tys s) (hP : va_P D vwCl (va_pl L g) H) (hL : a ∈ L) {fs : List Value} (hg : g a = .inr (ci, fs))
    (hc : vwCl[ci]? = some (C, T, N)) (k : Nat) (hk : k < N) (hlink : (Cond.fieldLink own index (T k).1 (T k).2.1 (T k).2.2.1).before args s = true) {v : Value} (hv : fs[k]? = some v) (hdg : decode cc pc = .ok (.getfield index, 3))
    (kk : W p l e R s m args below meth c H locs cells slots Q (F0 m (pc + 3) ls (v :: rest))) : W p l e R s m args below meth c H locs cells slots Q (F0 m pc ls (.ref a :: rest)) := by
  obtain ⟨j, hj⟩ := pg_at hL hg
  exact va_get hx hb hts hin hown hK hP j hj hc k hk hlink (fun _ h => h) hv hdg kk
/-- putfield -/
theorem pg_put (hx : p.tables.exec = Jvm.exec) (hb : c.code = cc) {T : u_T} {N ci : Nat} (hts : ∀ w ∈ Ts, w.before args s = true) (hin : ∀ w ∈ u_ws C T N, w ∈ Ts) (ty0 : Nat → FieldType) (hty : ∀ k, k < N → parseFieldDescriptor (T k).2.2.1 = some (ty0 k)) (hnm : ∀ a, a < N → ∀ b, b < N → a ≠ b → (T a).2.1 ≠ (T b).2.1) (hown : s.vm.findClass own = some m.cls) (hK : va_K D vwCl tys s) (hP : va_P D vwCl (va_pl L g) H) (hD : va_D A (va_pl L g)) (hS : va_S A s.heap H locs)
    (hL : a ∈ L) {fs : List Value} (hg : g a = .inr (ci, fs)) (hc : vwCl[ci]? = some (C, T, N)) (k : Nat) (hk : k < N) (hlink : (Cond.fieldLink own index (T k).1 (T k).2.1 (T k).2.2.1).before args s = true) (hfin : (T k).2.2.2 = false) {ty : FieldType} {v : Value} (hd : parseFieldDescriptor (T k).2.2.1 = some ty) (hn : narrow ty v = v) (hfit : fits ty v = true) (hl : k < fs.length) (hdg : decode cc pc = .ok (.putfield index, 3))
    (kk : ∀ (H1 : Heap) (locs1 : List Loc), va_P D vwCl (va_pl L (va_up g a (.inr (ci, fs.set k v)))) H1 → va_D A (va_pl L (va_up g a (.inr (ci, fs.set k v)))) → va_S A s.heap H1 locs1 → W p l e R s m args below meth c H1 locs1 cells slots Q (F0 m (pc + 3) ls rest)) : W p l e R s m args below meth c H locs cells slots Q (F0 m pc ls (v :: .ref a :: rest)) := by
  obtain ⟨j, hj⟩ := pg_at hL hg
  refine va_put hx hb hts hin ty0 hty hnm hown hK hP hD hS j hj hc k hk hlink (fun _ h => h) hfin hd hn hfit hl hdg (fun H1 locs1 h1 h2 h3 => ?_)
  rw [pg_set hD hL hg hj] at h1 h2
  exact kk H1 locs1 h1 h2 h3
/-- a long of an array -/
theorem pg_lald (hx : p.tables.exec = Jvm.exec) (hb : c.code = cc) (hK : va_K D vwCl tys s) (hP : va_P D vwCl (va_pl L g) H) (t0 : Nat) {cA : ClassId} {n : Nat} {f : Nat → Int64} (hL : a ∈ L) (hg : g a = .inl (cA, n, .inr (.inl f))) (ht : tys[t0]? = some (cA, .long)) {i : Int32} (hin : vp_in i n) (hdg : decode cc pc = .ok (.laload, 1))
    (kk : W p l e R s m args below meth c H locs cells slots Q (F0 m (pc + 1) ls (.long (f i.toNatClampNeg) :: rest))) : W p l e R s m args below meth c H locs cells slots Q (F0 m pc ls (.int i :: .ref a :: rest)) := by
  obtain ⟨j, hj⟩ := pg_at hL hg
  exact va_lald hx hb hK hP j t0 hj ht hin hdg kk
theorem pg_zald (hx : p.tables.exec = Jvm.exec) (hb : c.code = cc) (hK : va_K D vwCl tys s) (hP : va_P D vwCl (va_pl L g) H) (t0 : Nat) {cA : ClassId} {n : Nat} {f : Nat → Int32} (hL : a ∈ L) (hg : g a = .inl (cA, n, .inl f)) (ht : tys[t0]? = some (cA, .boolean)) {i : Int32} (hin : vp_in i n) (hdg : decode cc pc = .ok (.baload, 1))
    (kk : W p l e R s m args below meth c H locs cells slots Q (F0 m (pc + 1) ls (.int (f i.toNatClampNeg) :: rest))) : W p l e R s m args below meth c H locs cells slots Q (F0 m pc ls (.int i :: .ref a :: rest)) := by
  obtain ⟨j, hj⟩ := pg_at hL hg
  exact va_zald hx hb hK hP j t0 hj ht hin hdg kk
theorem pg_aald (hx : p.tables.exec = Jvm.exec) (hb : c.code = cc) (hK : va_K D vwCl tys s) (hP : va_P D vwCl (va_pl L g) H) (t0 : Nat) {cA : ClassId} {C : String} {n : Nat} {f : Nat → Option Nat} (hL : a ∈ L) (hg : g a = .inl (cA, n, .inr (.inr (.inr (.inr f))))) (ht : tys[t0]? = some (cA, .object C)) {i : Int32} (hin : vp_in i n) (hdg : decode cc pc = .ok (.aaload, 1))
    (kk : W p l e R s m args below meth c H locs cells slots Q (F0 m (pc + 1) ls (va_rf (f i.toNatClampNeg) :: rest))) : W p l e R s m args below meth c H locs cells slots Q (F0 m pc ls (.int i :: .ref a :: rest)) := by
  obtain ⟨j, hj⟩ := pg_at hL hg
  exact va_aldq hx hb hK hP j t0 hj ht hin hdg kk
theorem pg_alen (hx : p.tables.exec = Jvm.exec) (hb : c.code = cc) (hK : va_K D vwCl tys s) (hP : va_P D vwCl (va_pl L g) H) (t0 : Nat) {cA : ClassId} {x : vp_A} (hL : a ∈ L) (hg : g a = .inl (cA, x)) {ty : FieldType} (ht : tys[t0]? = some (cA, ty)) {v : Int32} (hv : Int32.ofNat x.1 = v) (hdg : decode cc pc = .ok (.arraylength, 1))
    (kk : W p l e R s m args below meth c H locs cells slots Q (F0 m (pc + 1) ls (.int v :: rest))) : W p l e R s m args below meth c H locs cells slots Q (F0 m pc ls (.ref a :: rest)) := by
  obtain ⟨j, hj⟩ := pg_at hL hg
  exact va_alen hx hb hK hP j t0 hj ht hv hdg kk
theorem pg_last (hx : p.tables.exec = Jvm.exec) (hb : c.code = cc) (hK : va_K D vwCl tys s) (hP : va_P D vwCl (va_pl L g) H) (hD : va_D A (va_pl L g)) (hS : va_S A s.heap H locs) (t0 : Nat) {cA : ClassId} {n : Nat} {f : Nat → Int64} (hL : a ∈ L) (hg : g a = .inl (cA, n, .inr (.inl f))) (ht : tys[t0]? = some (cA, .long)) {i : Int32} {x : Int64} (hin : vp_in i n) (hdg : decode cc pc = .ok (.lastore, 1))
    (kk : ∀ (H1 : Heap) (locs1 : List Loc), va_P D vwCl (va_pl L (va_up g a (.inl (cA, n, .inr (.inl (vp_updL f i.toNatClampNeg x)))))) H1 → va_D A (va_pl L (va_up g a (.inl (cA, n, .inr (.inl (vp_updL f i.toNatClampNeg x)))))) → va_S A s.heap H1 locs1 → W p l e R s m args below meth c H1 locs1 cells slots Q (F0 m (pc + 1) ls rest)) : W p l e R s m args below meth c H locs cells slots Q (F0 m pc ls (.long x :: .int i :: .ref a :: rest)) := by
  obtain ⟨j, hj⟩ := pg_at hL hg
  refine va_last hx hb hK hP hD hS j t0 hj ht hin hdg (fun H1 locs1 h1 h2 h3 => ?_)
  rw [pg_set hD hL hg hj] at h1 h2
  exact kk H1 locs1 h1 h2 h3
theorem pg_zast (hx : p.tables.exec = Jvm.exec) (hb : c.code = cc) (hK : va_K D vwCl tys s) (hP : va_P D vwCl (va_pl L g) H) (hD : va_D A (va_pl L g)) (hS : va_S A s.heap H locs) (t0 : Nat) {cA : ClassId} {n : Nat} {f : Nat → Int32} (hL : a ∈ L) (hg : g a = .inl (cA, n, .inl f)) (ht : tys[t0]? = some (cA, .boolean)) {i : Int32} {x : Int32} (hin : vp_in i n) (hdg : decode cc pc = .ok (.bastore, 1))
    (kk : ∀ (H1 : Heap) (locs1 : List Loc), va_P D vwCl (va_pl L (va_up g a (.inl (cA, n, .inl (upd f i.toNatClampNeg (vp_nar .boolean x)))))) H1 → va_D A (va_pl L (va_up g a (.inl (cA, n, .inl (upd f i.toNatClampNeg (vp_nar .boolean x)))))) → va_S A s.heap H1 locs1 → W p l e R s m args below meth c H1 locs1 cells slots Q (F0 m (pc + 1) ls rest)) : W p l e R s m args below meth c H locs cells slots Q (F0 m pc ls (.int x :: .int i :: .ref a :: rest)) := by
  obtain ⟨j, hj⟩ := pg_at hL hg
  refine va_zast hx hb hK hP hD hS j t0 hj ht hin hdg (fun H1 locs1 h1 h2 h3 => ?_)
  rw [pg_set hD hL hg hj] at h1 h2
  exact kk H1 locs1 h1 h2 h3
/-- the receiver of a call is an object of the world -/
theorem pg_recv {T : u_T} {N ci : Nat} {fs : List Value} (hK : va_K D vwCl tys s) (hP : va_P D vwCl (va_pl L g) H) (hL : a ∈ L) (hg : g a = .inr (ci, fs)) (hc : vwCl[ci]? = some (C, T, N)) : ∃ cell : Cell, H[a]? = some cell ∧ cell.vm.isStatics = false ∧ s.vm.findClass C = some cell.cls := by
  obtain ⟨j, hj⟩ := pg_at hL hg
  exact va_recv hK hP hc hj
end HB
end
