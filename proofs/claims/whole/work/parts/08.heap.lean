/-! THE WORLD: the addresses L of the objects that the law has made, and what each holds (g), as a map. -/
def PA (L : List Nat) (n : Nat) : Nat → Prop := fun q => q ∈ L ∨ n ≤ q
/-- the two statics of Throwable that a throw reads -/
def TC (A : Nat → Prop) (U : State) (H : Heap) : Prop := vx_Zq Bundle.tN "UNASSIGNED_STACK" Bundle.steD A U H ∧ vx_Zq Bundle.tN "SUPPRESSED_SENTINEL" Bundle.listD A U H
theorem TC.moved {A : Nat → Prop} {u U : State} {H : Heap} (hvm : u.vm.Alike U.vm) (h : TC A u H) : TC A U H := ⟨h.1.moved hvm, h.2.moved hvm⟩
theorem TC.kept {A : Nat → Prop} {U : State} {H H1 : Heap} (h : TC A U H) (hq : ∀ a : Nat, a < H.size → ¬ A a → H1[a]? = H[a]?) : TC A U H1 := ⟨h.1.kept hq, h.2.kept hq⟩
theorem TC.narrow {A B : Nat → Prop} {U : State} {H : Heap} (h : TC A U H) (hAB : ∀ q, B q → A q) : TC B U H := ⟨h.1.narrow hAB, h.2.narrow hAB⟩
/-- the texts of NeedleBoard's exceptions, and which exceptions aren't which -/
def xsTexts : List (Nat × String) := [(34, "the low limit is above the high one"), (45, "the board is full"), (72, "opposite infinities have no sum"), (91, "there is no such way to rest"), (118, "there is no such thing to read"), (120, "the needles are of two kinds"), (136, "there is no such thing between needles"), (145, "there is no such way to tally"), (163, "there is no such needle"), (173, "these bits tell no number")]
def XS (U : State) : Prop := (∀ q ∈ xsTexts, ∃ sa : Nat, vk_R RX2 q.1 q.2 sa U) ∧
  ∀ q ∈ [("java/lang/IllegalArgumentException", "java/util/NoSuchElementException"), ("java/lang/IllegalStateException", "java/util/NoSuchElementException"), ("java/lang/IllegalStateException", "java/lang/IllegalArgumentException")], va_Nc q.1 q.2 U
theorem XS.warm {s U : State} (hW : s.WarmedH U.vm) (h : XS s) : XS U := ⟨fun q hq => by obtain ⟨sa, h1⟩ := h.1 q hq; exact ⟨sa, vk_R.warm hW h1⟩, fun q hq => (h.2 q hq).moved hW.alike⟩
def ieN : String := "java/lang/IllegalArgumentException"
def isN : String := "java/lang/IllegalStateException"
def nsN : String := "java/util/NoSuchElementException"
/-- the words of the three throws that aren't good ones -/
def NW : List Cond := (vx_atS RX2 36 "java/lang/IllegalArgumentException" ["java/lang/RuntimeException", "java/lang/Exception"]).filter (fun w => !goodWord w) ++ (vx_atS RX2 47 "java/lang/IllegalStateException" ["java/lang/RuntimeException", "java/lang/Exception"]).filter (fun w => !goodWord w) ++ ns_at.filter (fun w => !goodWord w)
def nwOk : Cond → Bool
  | .castable _ _ => true
  | .declares _ => true
  | _ => false
theorem NW_ok : ∀ w ∈ NW, nwOk w = true := by decide +kernel
theorem nw_warm {w : Cond} (h : nwOk w = true) {s U : State} (hW : s.WarmedH U.vm) (hZ : va_Nw w s) : va_Nw w U := by
  cases w <;> first | exact va_Nw.warmC hW hZ | exact va_Nw.warmD hW hZ | exact absurd h (by simp [nwOk])
theorem nw_use {w : Cond} (h : nwOk w = true) {s : State} {args : Array Value} (hZ : va_Nw w s) : w.before args s = true := by
  cases w <;> first | exact va_Nw.use rfl hZ | exact absurd h (by simp [nwOk])
def XN (U : State) : Prop := XS U ∧ ∀ w ∈ NW, va_Nw w U
theorem XN.warm {s U : State} (hW : s.WarmedH U.vm) (h : XN s) : XN U := ⟨h.1.warm hW, fun w hw => nw_warm (NW_ok w hw) hW (h.2 w hw)⟩
def WW (D : va_G) (tys : List (ClassId × FieldType)) (ad : Nat → Nat) (L : List Nat) (g : Nat → va_E) (U : State) : Prop :=
  va_P D vwCl (va_pl L g) U.heap ∧ va_K D vwCl tys U ∧ va_D (PA L U.heap.size) (va_pl L g) ∧ KC ad (PA L U.heap.size) U U.heap ∧ TC (PA L U.heap.size) U U.heap
theorem pl_in {L : List Nat} {g : Nat → va_E} {k : Nat} {q : Nat × va_E} (h : (va_pl L g)[k]? = some q) : q.1 ∈ L := by
  obtain ⟨a, ha, he⟩ := List.mem_map.mp (List.mem_of_getElem? h)
  rw [← he]; exact ha
/-- the world, seen at a call -/
theorem WW.mk {D : va_G} {tys : List (ClassId × FieldType)} {ad : Nat → Nat} {L : List Nat} {g : Nat → va_E} {A : Nat → Prop} {s : State} {H : Heap} {locs : List Loc} (hP : va_P D vwCl (va_pl L g) H) (hK : va_K D vwCl tys s) (hD : va_D A (va_pl L g)) (hKC : KC ad A s s.heap) (hTC : TC A s s.heap)
    (hS : va_S A s.heap H locs) (hLA : ∀ q ∈ L, A q) (hA : ∀ q, s.heap.size ≤ q → A q) {U : State} (hU : U.heap = H) (hvm : s.vm.Alike U.vm) : WW D tys ad L g U := by
  have hn : ∀ q, PA L H.size q → A q := fun q h => h.elim (hLA q) (fun h => hA q (Nat.le_trans hS.1 h))
  refine ⟨by rw [hU]; exact hP, va_K.moved hvm hK, ?_, ?_, ?_⟩
  · exact hD.weaken (fun _ _ h _ => Or.inl (pl_in h))
  · rw [hU]; exact ((hKC.kept hS.2.1).narrow hn).moved hvm
  · rw [hU]; exact ((hTC.kept hS.2.1).narrow hn).moved hvm
theorem WW.calling {D : va_G} {tys : List (ClassId × FieldType)} {ad : Nat → Nat} {L : List Nat} {g : Nat → va_E} {U : State} (h : WW D tys ad L g U) (f : JFrame) (mk : MethodId) (a : Array Value) : WW D tys ad L g (U.calling f mk a) := by
  obtain ⟨h1, h2, h3, h4, h5⟩ := h
  exact ⟨h1, va_K.moved (u := U) (U := U.calling f mk a) (Vm.Alike.refl U.vm) h2, h3, KC.moved (u := U) (U := U.calling f mk a) (Vm.Alike.refl U.vm) h4, TC.moved (u := U) (U := U.calling f mk a) (Vm.Alike.refl U.vm) h5⟩
/-- a method's start in a world -/
def PW (D : va_G) (tys : List (ClassId × FieldType)) (ad : Nat → Nat) (L : List Nat) (g : Nat → va_E) (av : List Value) : Array Value → State → Prop := fun v U => v = av.toArray ∧ WW D tys ad L g U ∧ XN U
theorem PW.blind (D : va_G) (tys : List (ClassId × FieldType)) (ad : Nat → Nat) (L : List Nat) (g : Nat → va_E) (av : List Value) : FrameBlind (PW D tys ad L g av) := fun a U f mk h => ⟨h.1, h.2.1.calling _ _ _, XN.warm (s := U) (U := U.calling f mk a) (State.WarmedH.refl U) h.2.2⟩
/-- its end: the answer, a world behind it of which P holds, nothing else changed -/
def QE (D : va_G) (tys : List (ClassId × FieldType)) (ad : Nat → Nat) (L : List Nat) (r : Option Value) (P : (Nat → va_E) → Prop) : Array Value → State → Outcome → State → Prop := fun _ st o t => o = .returned r ∧ (∃ g, WW D tys ad L g t ∧ P g) ∧ va_F (fun q => q ∈ L) st t
/-- .. of a method that may throw: code 0 says that it returned -/
def QEc (D : va_G) (tys : List (ClassId × FieldType)) (ad : Nat → Nat) (L : List Nat) (code : Nat) (r : Option Value) (P : (Nat → va_E) → Prop) : Array Value → State → Outcome → State → Prop := fun _ st o t => code = 0 ∧ o = .returned r ∧ (∃ g, WW D tys ad L g t ∧ P g) ∧ va_F (fun q => q ∈ L) st t
/-- .. and changes nothing -/
def QR (code : Nat) (r : Option Value) : Array Value → State → Outcome → State → Prop := fun _ st o t => code = 0 ∧ o = .returned r ∧ t.heap = st.heap
/-- which exception a code means -/
def XE (code : Nat) (E : String) : Prop := (code = 1 ∧ E = nsN) ∨ (code = 2 ∧ E = ieN) ∨ (code = 3 ∧ E = isN)
def XW (D : va_G) (tys : List (ClassId × FieldType)) (ad : Nat → Nat) (L : List Nat) (g : Nat → va_E) (code : Nat) : String → State → State → Prop := fun E st t => XE code E ∧ WW D tys ad L g t ∧ va_F (fun _ => False) st t
section HB
variable {p : Program} {l : Launch} {e : Env} {R : Room} {s : State} {m : MethodId} {args : Array Value} {below : List Frame} {meth : Method} {c : Code} {H : Heap} {locs : List Loc} {cells slots : Nat} {Q : State → Prop}
variable {cc : ByteArray} {pc : Nat} {ls : Array Slot} {rest st0 : List Value} {A : Nat → Prop} {ad : Nat → Nat} {D : va_G} {tys : List (ClassId × FieldType)} {L : List Nat} {g : Nat → va_E} {a : Nat}
variable {y : MethodName} {bytes : ByteArray} {maxL nL n index : Nat} {ret : Option FieldType} {ws Ts : List Cond} {rm : Room} {own C : String} {As : List Value}
theorem pg_at (hL : a ∈ L) {x : va_E} (hg : g a = x) : ∃ k : Nat, (va_pl L g)[k]? = some (a, x) := by
  obtain ⟨k, hk⟩ := va_pl_get (X := []) (f := g) hL
  exact ⟨k, by rw [← hg]; exact hk⟩
theorem pg_set {x x1 : va_E} {k : Nat} (hD : va_D A (va_pl L g)) (hL : a ∈ L) (hg : g a = x) (hk : (va_pl L g)[k]? = some (a, x)) : (va_pl L g).set k (a, x1) = va_pl L (va_up g a x1) := by
  have h := va_pl_set (X := []) (e := x1) hD hL (k := k) (by rw [hg]; exact hk)
  exact h
/-- getfield of an object of the world -/
theorem pg_get (hx : p.tables.exec = Jvm.exec) (hb : c.code = cc) {T : u_T} {N ci : Nat} (hts : ∀ w ∈ Ts, w.before args s = true) (hin : ∀ w ∈ u_ws C T N, w ∈ Ts) (hown : s.vm.findClass own = some m.cls) (hK : va_K D vwCl tys s) (hP : va_P D vwCl (va_pl L g) H) (hL : a ∈ L) {fs : List Value} (hg : g a = .inr (ci, fs))
    (hc : vwCl[ci]? = some (C, T, N)) (k : Nat) (hk : k < N) (hlink : (Cond.fieldLink own index (T k).1 (T k).2.1 (T k).2.2.1).before args s = true) {v : Value} (hv : fs[k]? = some v) (hdg : decode cc pc = .ok (.getfield index, 3))
    (kk : W p l e R s m args below meth c H locs cells slots Q (F0 m (pc + 3) ls (v :: rest))) : W p l e R s m args below meth c H locs cells slots Q (F0 m pc ls (.ref a :: rest)) := by
  obtain ⟨j, hj⟩ := pg_at hL hg
  exact va_get hx hb hts hin hown hK hP j hj hc k hk hlink (fun _ h => h) hv hdg kk
/-- putfield -/
theorem pg_put (hx : p.tables.exec = Jvm.exec) (hb : c.code = cc) {T : u_T} {N ci : Nat} (hts : ∀ w ∈ Ts, w.before args s = true) (hin : ∀ w ∈ u_ws C T N, w ∈ Ts) (ty0 : Nat → FieldType) (hty : ∀ k, k < N → parseFieldDescriptor (T k).2.2.1 = some (ty0 k)) (hnm : ∀ a, a < N → ∀ b, b < N → a ≠ b → (T a).2.1 ≠ (T b).2.1) (hown : s.vm.findClass own = some m.cls) (hK : va_K D vwCl tys s) (hP : va_P D vwCl (va_pl L g) H) (hD : va_D A (va_pl L g)) (hS : va_S A s.heap H locs)
    (hL : a ∈ L) {fs : List Value} (hg : g a = .inr (ci, fs)) (hc : vwCl[ci]? = some (C, T, N)) (k : Nat) (hk : k < N) (hlink : (Cond.fieldLink own index (T k).1 (T k).2.1 (T k).2.2.1).before args s = true) (hfin : (T k).2.2.2 = false) {ty : FieldType} {v : Value} (hd : parseFieldDescriptor (T k).2.2.1 = some ty) (hn : narrow ty v = v) (hfit : fits ty v = true) (hl : k < fs.length) (hdg : decode cc pc = .ok (.putfield index, 3))
    (kk : ∀ (H1 : Heap) (locs1 : List Loc), va_P D vwCl (va_pl L (va_up g a (.inr (ci, fs.set k v)))) H1 → va_D A (va_pl L (va_up g a (.inr (ci, fs.set k v)))) → va_S A s.heap H1 locs1 → W p l e R s m args below meth c H1 locs1 cells slots Q (F0 m (pc + 3) ls rest)) : W p l e R s m args below meth c H locs cells slots Q (F0 m pc ls (v :: .ref a :: rest)) := by
  obtain ⟨j, hj⟩ := pg_at hL hg
  refine va_put hx hb hts hin ty0 hty hnm hown hK hP hD hS j hj hc k hk hlink (fun _ h => h) hfin hd hn hfit hl hdg (fun H1 locs1 h1 h2 h3 => ?_)
  rw [pg_set hD hL hg hj] at h1 h2
  exact kk H1 locs1 h1 h2 h3
/-- a long of an array -/
theorem pg_lald (hx : p.tables.exec = Jvm.exec) (hb : c.code = cc) (hK : va_K D vwCl tys s) (hP : va_P D vwCl (va_pl L g) H) (t0 : Nat) {cA : ClassId} {n : Nat} {f : Nat → Int64} (hL : a ∈ L) (hg : g a = .inl (cA, n, .inr (.inl f))) (ht : tys[t0]? = some (cA, .long)) {i : Int32} (hin : vp_in i n) (hdg : decode cc pc = .ok (.laload, 1))
    (kk : W p l e R s m args below meth c H locs cells slots Q (F0 m (pc + 1) ls (.long (f i.toNatClampNeg) :: rest))) : W p l e R s m args below meth c H locs cells slots Q (F0 m pc ls (.int i :: .ref a :: rest)) := by
  obtain ⟨j, hj⟩ := pg_at hL hg
  exact va_lald hx hb hK hP j t0 hj ht hin hdg kk
theorem pg_zald (hx : p.tables.exec = Jvm.exec) (hb : c.code = cc) (hK : va_K D vwCl tys s) (hP : va_P D vwCl (va_pl L g) H) (t0 : Nat) {cA : ClassId} {n : Nat} {f : Nat → Int32} (hL : a ∈ L) (hg : g a = .inl (cA, n, .inl f)) (ht : tys[t0]? = some (cA, .boolean)) {i : Int32} (hin : vp_in i n) (hdg : decode cc pc = .ok (.baload, 1))
    (kk : W p l e R s m args below meth c H locs cells slots Q (F0 m (pc + 1) ls (.int (f i.toNatClampNeg) :: rest))) : W p l e R s m args below meth c H locs cells slots Q (F0 m pc ls (.int i :: .ref a :: rest)) := by
  obtain ⟨j, hj⟩ := pg_at hL hg
  exact va_zald hx hb hK hP j t0 hj ht hin hdg kk
theorem pg_aald (hx : p.tables.exec = Jvm.exec) (hb : c.code = cc) (hK : va_K D vwCl tys s) (hP : va_P D vwCl (va_pl L g) H) (t0 : Nat) {cA : ClassId} {C : String} {n : Nat} {f : Nat → Option Nat} (hL : a ∈ L) (hg : g a = .inl (cA, n, .inr (.inr (.inr (.inr f))))) (ht : tys[t0]? = some (cA, .object C)) {i : Int32} (hin : vp_in i n) (hdg : decode cc pc = .ok (.aaload, 1))
    (kk : W p l e R s m args below meth c H locs cells slots Q (F0 m (pc + 1) ls (va_rf (f i.toNatClampNeg) :: rest))) : W p l e R s m args below meth c H locs cells slots Q (F0 m pc ls (.int i :: .ref a :: rest)) := by
  obtain ⟨j, hj⟩ := pg_at hL hg
  exact va_aldq hx hb hK hP j t0 hj ht hin hdg kk
theorem pg_alen (hx : p.tables.exec = Jvm.exec) (hb : c.code = cc) (hK : va_K D vwCl tys s) (hP : va_P D vwCl (va_pl L g) H) (t0 : Nat) {cA : ClassId} {x : vp_A} (hL : a ∈ L) (hg : g a = .inl (cA, x)) {ty : FieldType} (ht : tys[t0]? = some (cA, ty)) {v : Int32} (hv : Int32.ofNat x.1 = v) (hdg : decode cc pc = .ok (.arraylength, 1))
    (kk : W p l e R s m args below meth c H locs cells slots Q (F0 m (pc + 1) ls (.int v :: rest))) : W p l e R s m args below meth c H locs cells slots Q (F0 m pc ls (.ref a :: rest)) := by
  obtain ⟨j, hj⟩ := pg_at hL hg
  exact va_alen hx hb hK hP j t0 hj ht hv hdg kk
theorem pg_last (hx : p.tables.exec = Jvm.exec) (hb : c.code = cc) (hK : va_K D vwCl tys s) (hP : va_P D vwCl (va_pl L g) H) (hD : va_D A (va_pl L g)) (hS : va_S A s.heap H locs) (t0 : Nat) {cA : ClassId} {n : Nat} {f : Nat → Int64} (hL : a ∈ L) (hg : g a = .inl (cA, n, .inr (.inl f))) (ht : tys[t0]? = some (cA, .long)) {i : Int32} {x : Int64} (hin : vp_in i n) (hdg : decode cc pc = .ok (.lastore, 1))
    (kk : ∀ (H1 : Heap) (locs1 : List Loc), va_P D vwCl (va_pl L (va_up g a (.inl (cA, n, .inr (.inl (vp_updL f i.toNatClampNeg x)))))) H1 → va_D A (va_pl L (va_up g a (.inl (cA, n, .inr (.inl (vp_updL f i.toNatClampNeg x)))))) → va_S A s.heap H1 locs1 → W p l e R s m args below meth c H1 locs1 cells slots Q (F0 m (pc + 1) ls rest)) : W p l e R s m args below meth c H locs cells slots Q (F0 m pc ls (.long x :: .int i :: .ref a :: rest)) := by
  obtain ⟨j, hj⟩ := pg_at hL hg
  refine va_last hx hb hK hP hD hS j t0 hj ht hin hdg (fun H1 locs1 h1 h2 h3 => ?_)
  rw [pg_set hD hL hg hj] at h1 h2
  exact kk H1 locs1 h1 h2 h3
theorem pg_zast (hx : p.tables.exec = Jvm.exec) (hb : c.code = cc) (hK : va_K D vwCl tys s) (hP : va_P D vwCl (va_pl L g) H) (hD : va_D A (va_pl L g)) (hS : va_S A s.heap H locs) (t0 : Nat) {cA : ClassId} {n : Nat} {f : Nat → Int32} (hL : a ∈ L) (hg : g a = .inl (cA, n, .inl f)) (ht : tys[t0]? = some (cA, .boolean)) {i : Int32} {x : Int32} (hin : vp_in i n) (hdg : decode cc pc = .ok (.bastore, 1))
    (kk : ∀ (H1 : Heap) (locs1 : List Loc), va_P D vwCl (va_pl L (va_up g a (.inl (cA, n, .inl (upd f i.toNatClampNeg (vp_nar .boolean x)))))) H1 → va_D A (va_pl L (va_up g a (.inl (cA, n, .inl (upd f i.toNatClampNeg (vp_nar .boolean x)))))) → va_S A s.heap H1 locs1 → W p l e R s m args below meth c H1 locs1 cells slots Q (F0 m (pc + 1) ls rest)) : W p l e R s m args below meth c H locs cells slots Q (F0 m pc ls (.int x :: .int i :: .ref a :: rest)) := by
  obtain ⟨j, hj⟩ := pg_at hL hg
  refine va_zast hx hb hK hP hD hS j t0 hj ht hin hdg (fun H1 locs1 h1 h2 h3 => ?_)
  rw [pg_set hD hL hg hj] at h1 h2
  exact kk H1 locs1 h1 h2 h3
/-- the receiver of a call is an object of the world -/
theorem pg_recv {T : u_T} {N ci : Nat} {fs : List Value} (hK : va_K D vwCl tys s) (hP : va_P D vwCl (va_pl L g) H) (hL : a ∈ L) (hg : g a = .inr (ci, fs)) (hc : vwCl[ci]? = some (C, T, N)) : ∃ cell : Cell, H[a]? = some cell ∧ cell.vm.isStatics = false ∧ s.vm.findClass C = some cell.cls := by
  obtain ⟨j, hj⟩ := pg_at hL hg
  exact va_recv hK hP hc hj
/-- the world at a call or at the end, where no cell has come to it -/
theorem WM (hP : va_P D vwCl (va_pl L g) H) (hK : va_K D vwCl tys s) (hD : va_D (fun q => q ∈ L) (va_pl L g)) (hKC : KC ad (PA L s.heap.size) s s.heap) (hTC : TC (PA L s.heap.size) s s.heap) (hS : va_S (fun q => q ∈ L) s.heap H locs) {U : State} (hU : U.heap = H) (hvm : s.vm.Alike U.vm) : WW D tys ad L g U :=
  WW.mk (A := PA L s.heap.size) hP hK (hD.weaken (fun _ _ _ h => Or.inl h)) hKC hTC ⟨hS.1, fun q h1 h2 => hS.2.1 q h1 (fun z => h2 (Or.inl z)), fun q h => Or.inl (hS.2.2 q h)⟩ (fun _ h => Or.inl h) (fun _ h => Or.inr h) hU hvm
theorem zn_of {v : Int32} (h : v = 0 ∨ v = 1) : narrow .boolean (.int v) = .int v := by rcases h with rfl | rfl <;> decide
/-- a call of a method that reads the world -/
theorem rc_V {b : Nat} {r : Value} (S : CallFix p m c cc nL s args Ts own) (hM : Met l y ws rm (PW D tys ad L g (.ref b :: As)) (k2_QcV r) 0 0 (fun _ => False)) (cw : CallW R s args own C index y bytes maxL ret ws rm 0 0 n)
    (hrec : ∃ cell : Cell, H[b]? = some cell ∧ cell.vm.isStatics = false ∧ s.vm.findClass C = some cell.cls) (hWW : ∀ U : State, U.heap = H → s.vm.Alike U.vm → WW D tys ad L g U) (hXN : XN s) (hn : As.length = n) (hl : ls.size = nL) (hst : st0 = As.reverse ++ .ref b :: rest) (hW : 2 * (F0 m pc ls rest).monitorRoom + (rest.map fun v => v.category).sum ≤ 8)
    (hdg : decode cc pc = .ok (.invokevirtual index, 3)) (hf : cells + 0 ≤ R.cells ∧ slots + 0 ≤ R.slots) (kk : W p l e R s m args below meth c H locs cells slots Q (F0 m (pc + 3) ls (r :: rest))) : W p l e R s m args below meth c H locs cells slots Q (F0 m pc ls st0) := by
  subst hst
  exact W.callV (W.runV S hM cw ⟨PW.blind D tys ad L g _, hrec, fun U hU hW => ⟨rfl, hWW U hU hW.alike, hXN.warm hW⟩⟩ rfl hn hl rfl hW hdg hf) kk
theorem we_D {g1 : Nat → va_E} {n : Nat} (hLA : ∀ q ∈ L, A q) (h : va_D (PA L n) (va_pl L g1)) : va_D A (va_pl L g1) := h.weaken (fun _ _ hk _ => hLA _ (pl_in hk))
/-- a call of a method that changes the world -/
theorem mc_V {b mc ms : Nat} {r : Option Value} {P : (Nat → va_E) → Prop} (S : CallFix p m c cc nL s args Ts own) (hM : Met l y ws rm (PW D tys ad L g (.ref b :: As)) (QE D tys ad L r P) mc ms (fun q => q ∈ L)) (cw : CallW R s args own C index y bytes maxL ret ws rm mc ms n)
    (hrec : ∃ cell : Cell, H[b]? = some cell ∧ cell.vm.isStatics = false ∧ s.vm.findClass C = some cell.cls) (hWW : ∀ U : State, U.heap = H → s.vm.Alike U.vm → WW D tys ad L g U) (hXN : XN s) (hS : va_S A s.heap H locs) (hLA : ∀ q ∈ L, A q) (hn : As.length = n) (hl : ls.size = nL) (hst : st0 = As.reverse ++ .ref b :: rest) (hW : 2 * (F0 m pc ls rest).monitorRoom + (rest.map fun v => v.category).sum ≤ 8)
    (hdg : decode cc pc = .ok (.invokevirtual index, 3)) (hf : cells + mc ≤ R.cells ∧ slots + ms ≤ R.slots)
    (kk : ∀ (g1 : Nat → va_E) (H1 : Heap) (locs1 : List Loc), P g1 → va_P D vwCl (va_pl L g1) H1 → va_D A (va_pl L g1) → va_S A s.heap H1 locs1 → W p l e R s m args below meth c H1 locs1 (cells + mc) (slots + ms) Q (F0 m (pc + 3) ls (r.toList ++ rest))) : W p l e R s m args below meth c H locs cells slots Q (F0 m pc ls st0) := by
  subst hst
  intro T hT X
  obtain ⟨v, st₀, t, T', L', h0, X', hL', e1, ⟨hv, ⟨g1, hw, hp⟩, hF⟩, st⟩ := W.runV (g := F0 m pc ls (As.reverse ++ .ref b :: rest)) S hM cw ⟨PW.blind D tys ad L g _, hrec, fun U hU hW => ⟨rfl, hWW U hU hW.alike, hXN.warm hW⟩⟩ rfl hn hl rfl hW hdg hf T hT X
  cases hv
  obtain ⟨k1, k2, k3⟩ := vx_keep (free := fun q => q ∈ L) h0 e1 hS (fun q _ h => hLA q h) hLA hL' hF
  obtain ⟨t2, a1, b1⟩ := kk g1 T'.heap (locs ++ L') hp (by rw [e1]; exact hw.1) (we_D hLA hw.2.2.1) k3 T' rfl X'
  exact ⟨t2, st t2 a1, b1⟩
/-- what the world is behind a throw that only made a cell -/
theorem we_x (hP : va_P D vwCl (va_pl L g) s.heap) (hK : va_K D vwCl tys s) (hD : va_D (PA L s.heap.size) (va_pl L g)) (hKC : KC ad (PA L s.heap.size) s s.heap) (hTC : TC (PA L s.heap.size) s s.heap) {t : State} (hvm : s.vm.Alike t.vm) (hz : s.heap.size ≤ t.heap.size) (hk : ∀ q : Nat, q < s.heap.size → t.heap[q]? = s.heap[q]?) : WW D tys ad L g t := by
  refine WW.mk (A := PA L s.heap.size) (s := s) (locs := []) (H := t.heap) (hP.kept (fun k q hq => hk _ (hP k q hq).lt)) hK hD hKC hTC ⟨hz, fun q h _ => hk q h, fun _ h => nomatch h⟩ (fun q h => Or.inl h) (fun q h => Or.inr h) rfl hvm
/-- a call of a method that reads the world, or throws: then this method throws too -/
theorem xp_V {b mc ms mc1 ms1 code code1 : Nat} {r : Option Value} {free : Addr → Prop} {Qc : Array Value → State → Outcome → State → Prop} (S : CallFix p m c cc nL s args Ts own) (hM : vx_Met l y ws rm (PW D tys ad L g (.ref b :: As)) (QR code r) (XW D tys ad L g code) mc ms (fun _ => False)) (cw : CallW R s args own C index y bytes maxL ret ws rm mc ms n)
    (hrec : ∃ cell : Cell, s.heap[b]? = some cell ∧ cell.vm.isStatics = false ∧ s.vm.findClass C = some cell.cls) (hWW : ∀ U : State, U.heap = s.heap → s.vm.Alike U.vm → WW D tys ad L g U) (hXN : XN s) (hn : As.length = n) (hl : ls.size = nL) (hst : st0 = As.reverse ++ .ref b :: rest) (hW : 2 * (F0 m pc ls rest).monitorRoom + (rest.map fun v => v.category).sum ≤ 8)
    (hdg : decode cc pc = .ok (.invokevirtual index, 3)) (hf : cells + mc ≤ R.cells ∧ slots + ms ≤ R.slots) (hout : ∀ x ∈ c.exceptionTable.toList, False) (hlocks : meth.locks = false) (hcode : ¬ code = 0 → code1 = code) (hm1 : cells + mc ≤ mc1) (hm2 : slots + ms ≤ ms1)
    (kk : code = 0 → W p l e R s m args below meth c s.heap [] (cells + mc) (slots + ms) (vx_MQ below Qc (XW D tys ad L g code1) args s mc1 ms1 free) (F0 m (pc + 3) ls (r.toList ++ rest))) :
    W p l e R s m args below meth c s.heap [] cells slots (vx_MQ below Qc (XW D tys ad L g code1) args s mc1 ms1 free) (F0 m pc ls st0) := by
  subst hst
  intro T hT X
  rcases vx_runV (g := F0 m pc ls (As.reverse ++ .ref b :: rest)) S hM cw ⟨PW.blind D tys ad L g _, hrec, fun U hU hW => ⟨rfl, hWW U hU hW.alike, hXN.warm hW⟩⟩ rfl hn hl rfl hW hdg hf T hT X with ⟨v, st₀, t, T', L', h0, X', hL', e1, e2, ⟨hc0, hv, hh⟩, st⟩ | ⟨q, st₀, t, T', L', E, ce, h0, X', hL', e1, e2, ⟨hxe, hw, hF⟩, hce, hcv, hcl, st⟩
  · cases hv
    have hL0 : L' = [] := List.eq_nil_iff_forall_not_mem.mpr (fun z hz => hL' z hz)
    subst hL0
    obtain ⟨t2, a1, b1⟩ := kk hc0 T' (by rw [e1, hh, h0]) X'
    exact ⟨t2, st t2 a1, b1⟩
  · have hL0 : L' = [] := List.eq_nil_iff_forall_not_mem.mpr (fun z hz => hL' z hz)
    subst hL0
    obtain ⟨hz, hk⟩ := hF
    rw [h0] at hz hk
    have hne : ¬ code = 0 := by rcases hxe with h | h | h <;> rw [h.1] <;> decide
    have K := vx_out (p := p) (l := l) (e := e) (R := R) (s := s) (m := m) (args := args) (below := below) (meth := meth) (c := c) (H := T'.heap) (locs := []) (cells := cells + mc) (slots := slots + ms) (ls := ls) (rest := rest) (Qc := Qc) (XC := XW D tys ad L g code1) (free := free) (pc := pc) (E := E) (ce := ce) (q := q) (mc := mc1) (ms := ms1)
      (fun x hx => (hout x hx).elim) hlocks (by rw [e1]; exact hce) hcv hcl (fun t3 ht3 hvm3 => ⟨by rw [hcode hne]; exact hxe, ?_, ?_⟩) (fun _ h => nomatch h) hm1 hm2
    · obtain ⟨t2, a1, b1⟩ := K T' rfl X'
      exact ⟨t2, st.trans a1, b1⟩
    · have hh3 : t3.heap = t.heap := ht3.trans e1
      obtain ⟨w1, w2, w3, w4, w5⟩ := hw
      have hvm : t.vm.Alike t3.vm := (by rw [← e2]; exact X'.warmed.alike.symm : t.vm.Alike s.vm).trans hvm3
      exact ⟨by rw [hh3]; exact w1, va_K.moved hvm w2, by rw [hh3]; exact w3, by rw [hh3]; exact w4.moved hvm, by rw [hh3]; exact w5.moved hvm⟩
    · have hh3 : t3.heap = t.heap := ht3.trans e1
      exact ⟨by rw [hh3]; exact hz, fun q h1 h2 => by rw [hh3]; exact hk q h1 h2⟩
/-- a call of a method that reads the world, or throws: then this method throws too -/
theorem xp_S {mc ms mc1 ms1 code code1 : Nat} {r : Option Value} {free : Addr → Prop} {Qc : Array Value → State → Outcome → State → Prop} (S : CallFix p m c cc nL s args Ts own) (hM : vx_Met l y ws rm (PW D tys ad L g As) (QR code r) (XW D tys ad L g code) mc ms (fun _ => False)) (cw : CallB R s args own index y bytes maxL ret ws rm mc ms n ∧ (Cond.static y).before args s = true)
    (hWW : ∀ U : State, U.heap = s.heap → s.vm.Alike U.vm → WW D tys ad L g U) (hXN : XN s) (hn : As.length = n) (hl : ls.size = nL) (hst : st0 = As.reverse ++ rest) (hW : 2 * (F0 m pc ls rest).monitorRoom + (rest.map fun v => v.category).sum ≤ 8)
    (hdg : decode cc pc = .ok (.invokestatic index, 3)) (hf : cells + mc ≤ R.cells ∧ slots + ms ≤ R.slots) (hout : ∀ x ∈ c.exceptionTable.toList, False) (hlocks : meth.locks = false) (hcode : ¬ code = 0 → code1 = code) (hm1 : cells + mc ≤ mc1) (hm2 : slots + ms ≤ ms1)
    (kk : code = 0 → W p l e R s m args below meth c s.heap [] (cells + mc) (slots + ms) (vx_MQ below Qc (XW D tys ad L g code1) args s mc1 ms1 free) (F0 m (pc + 3) ls (r.toList ++ rest))) :
    W p l e R s m args below meth c s.heap [] cells slots (vx_MQ below Qc (XW D tys ad L g code1) args s mc1 ms1 free) (F0 m pc ls st0) := by
  subst hst
  intro T hT X
  rcases vx_runS (g := F0 m pc ls (As.reverse ++ rest)) S hM cw ⟨PW.blind D tys ad L g _, fun U hU hW => ⟨rfl, hWW U hU hW.alike, hXN.warm hW⟩⟩ rfl hn hl rfl hW hdg hf T hT X with ⟨v, st₀, t, T', L', h0, X', hL', e1, e2, ⟨hc0, hv, hh⟩, st⟩ | ⟨q, st₀, t, T', L', E, ce, h0, X', hL', e1, e2, ⟨hxe, hw, hF⟩, hce, hcv, hcl, st⟩
  · cases hv
    have hL0 : L' = [] := List.eq_nil_iff_forall_not_mem.mpr (fun z hz => hL' z hz)
    subst hL0
    obtain ⟨t2, a1, b1⟩ := kk hc0 T' (by rw [e1, hh, h0]) X'
    exact ⟨t2, st t2 a1, b1⟩
  · have hL0 : L' = [] := List.eq_nil_iff_forall_not_mem.mpr (fun z hz => hL' z hz)
    subst hL0
    obtain ⟨hz, hk⟩ := hF
    rw [h0] at hz hk
    have hne : ¬ code = 0 := by rcases hxe with h | h | h <;> rw [h.1] <;> decide
    have K := vx_out (p := p) (l := l) (e := e) (R := R) (s := s) (m := m) (args := args) (below := below) (meth := meth) (c := c) (H := T'.heap) (locs := []) (cells := cells + mc) (slots := slots + ms) (ls := ls) (rest := rest) (Qc := Qc) (XC := XW D tys ad L g code1) (free := free) (pc := pc) (E := E) (ce := ce) (q := q) (mc := mc1) (ms := ms1)
      (fun x hx => (hout x hx).elim) hlocks (by rw [e1]; exact hce) hcv hcl (fun t3 ht3 hvm3 => ⟨by rw [hcode hne]; exact hxe, ?_, ?_⟩) (fun _ h => nomatch h) hm1 hm2
    · obtain ⟨t2, a1, b1⟩ := K T' rfl X'
      exact ⟨t2, st.trans a1, b1⟩
    · have hh3 : t3.heap = t.heap := ht3.trans e1
      obtain ⟨w1, w2, w3, w4, w5⟩ := hw
      have hvm : t.vm.Alike t3.vm := (by rw [← e2]; exact X'.warmed.alike.symm : t.vm.Alike s.vm).trans hvm3
      exact ⟨by rw [hh3]; exact w1, va_K.moved hvm w2, by rw [hh3]; exact w3, by rw [hh3]; exact w4.moved hvm, by rw [hh3]; exact w5.moved hvm⟩
    · have hh3 : t3.heap = t.heap := ht3.trans e1
      exact ⟨by rw [hh3]; exact hz, fun q h1 h2 => by rw [hh3]; exact hk q h1 h2⟩
end HB
