/-! THE WORLD: the addresses L of the objects that the law has made, and what each holds (g), as a map. -/
def PA (L : List Nat) (n : Nat) : Nat → Prop := fun q => q ∈ L ∨ n ≤ q
/-- the two statics of Throwable that a throw reads -/
def TC (A : Nat → Prop) (U : State) (H : Heap) : Prop := vx_Zq Bundle.tN "UNASSIGNED_STACK" Bundle.steD A U H ∧ vx_Zq Bundle.tN "SUPPRESSED_SENTINEL" Bundle.listD A U H
theorem TC.moved {A : Nat → Prop} {u U : State} {H : Heap} (hvm : u.vm.Alike U.vm) (h : TC A u H) : TC A U H := ⟨h.1.moved hvm, h.2.moved hvm⟩
theorem TC.kept {A : Nat → Prop} {U : State} {H H1 : Heap} (h : TC A U H) (hq : ∀ a : Nat, a < H.size → ¬ A a → H1[a]? = H[a]?) : TC A U H1 := ⟨h.1.kept hq, h.2.kept hq⟩
theorem TC.narrow {A B : Nat → Prop} {U : State} {H : Heap} (h : TC A U H) (hAB : ∀ q, B q → A q) : TC B U H := ⟨h.1.narrow hAB, h.2.narrow hAB⟩
/-- the texts of NeedleBoard's exceptions, and which exceptions aren't which -/
def XS (U : State) : Prop := (∀ q ∈ [(34, "the low limit is above the high one"), (45, "the board is full"), (72, "opposite infinities have no sum"), (91, "there is no such way to rest"), (118, "there is no such thing to read"), (120, "the needles are of two kinds"), (136, "there is no such thing between needles"), (145, "there is no such way to tally"), (163, "there is no such needle"), (173, "these bits tell no number")], ∃ sa : Nat, vk_R RX2 q.1 q.2 sa U) ∧
  ∀ q ∈ [("java/lang/IllegalArgumentException", "java/util/NoSuchElementException"), ("java/lang/IllegalStateException", "java/util/NoSuchElementException"), ("java/lang/IllegalStateException", "java/lang/IllegalArgumentException")], va_Nc q.1 q.2 U
theorem XS.warm {s U : State} (hW : s.WarmedH U.vm) (h : XS s) : XS U := ⟨fun q hq => by obtain ⟨sa, h1⟩ := h.1 q hq; exact ⟨sa, vk_R.warm hW h1⟩, fun q hq => (h.2 q hq).moved hW.alike⟩
def WW (D : va_G) (tys : List (ClassId × FieldType)) (ad : Nat → Nat) (L : List Nat) (g : Nat → va_E) (U : State) : Prop :=
  va_P D vwCl (va_pl L g) U.heap ∧ va_K D vwCl tys U ∧ va_D (PA L U.heap.size) (va_pl L g) ∧ KC ad (PA L U.heap.size) U U.heap ∧ TC (PA L U.heap.size) U U.heap ∧ XS U
theorem pl_in {L : List Nat} {g : Nat → va_E} {k : Nat} {q : Nat × va_E} (h : (va_pl L g)[k]? = some q) : q.1 ∈ L := by
  obtain ⟨a, ha, he⟩ := List.mem_map.mp (List.mem_of_getElem? h)
  rw [← he]; exact ha
/-- the world, seen at a call -/
theorem WW.mk {D : va_G} {tys : List (ClassId × FieldType)} {ad : Nat → Nat} {L : List Nat} {g : Nat → va_E} {A : Nat → Prop} {s : State} {H : Heap} {locs : List Loc} (hP : va_P D vwCl (va_pl L g) H) (hK : va_K D vwCl tys s) (hD : va_D A (va_pl L g)) (hKC : KC ad A s s.heap) (hTC : TC A s s.heap) (hXS : XS s)
    (hS : va_S A s.heap H locs) (hLA : ∀ q ∈ L, A q) (hA : ∀ q, s.heap.size ≤ q → A q) {U : State} (hU : U.heap = H) (hW : s.WarmedH U.vm) : WW D tys ad L g U := by
  have hn : ∀ q, PA L H.size q → A q := fun q h => h.elim (hLA q) (fun h => hA q (Nat.le_trans hS.1 h))
  refine ⟨by rw [hU]; exact hP, va_K.moved hW.alike hK, ?_, ?_, ?_, hXS.warm hW⟩
  · exact hD.weaken (fun _ _ h _ => Or.inl (pl_in h))
  · rw [hU]; exact ((hKC.kept hS.2.1).narrow hn).moved hW.alike
  · rw [hU]; exact ((hTC.kept hS.2.1).narrow hn).moved hW.alike
theorem WW.calling {D : va_G} {tys : List (ClassId × FieldType)} {ad : Nat → Nat} {L : List Nat} {g : Nat → va_E} {U : State} (h : WW D tys ad L g U) (f : JFrame) (mk : MethodId) (a : Array Value) : WW D tys ad L g (U.calling f mk a) := by
  obtain ⟨h1, h2, h3, h4, h5, h6⟩ := h
  exact ⟨h1, va_K.moved (u := U) (U := U.calling f mk a) (Vm.Alike.refl U.vm) h2, h3, KC.moved (u := U) (U := U.calling f mk a) (Vm.Alike.refl U.vm) h4, TC.moved (u := U) (U := U.calling f mk a) (Vm.Alike.refl U.vm) h5, XS.warm (s := U) (U := U.calling f mk a) (State.WarmedH.refl U) h6⟩
/-- a method's start in a world -/
def PW (D : va_G) (tys : List (ClassId × FieldType)) (ad : Nat → Nat) (L : List Nat) (g : Nat → va_E) (av : List Value) : Array Value → State → Prop := fun v U => v = av.toArray ∧ WW D tys ad L g U
theorem PW.blind (D : va_G) (tys : List (ClassId × FieldType)) (ad : Nat → Nat) (L : List Nat) (g : Nat → va_E) (av : List Value) : FrameBlind (PW D tys ad L g av) := fun _ _ _ _ h => ⟨h.1, h.2.calling _ _ _⟩
/-- its end: the answer, the world behind it, nothing else changed -/
def QW (D : va_G) (tys : List (ClassId × FieldType)) (ad : Nat → Nat) (L : List Nat) (r : Option Value) (g : Nat → va_E) : Array Value → State → Outcome → State → Prop := fun _ st o t => o = .returned r ∧ WW D tys ad L g t ∧ va_F (fun q => q ∈ L) st t
/-- .. or an exception: of the class E, the world as it was -/
def XW (D : va_G) (tys : List (ClassId × FieldType)) (ad : Nat → Nat) (L : List Nat) (g : Nat → va_E) (E : String) : String → State → State → Prop := fun E' st t => E' = E ∧ WW D tys ad L g t ∧ va_F (fun _ => False) st t
section HB
variable {p : Program} {l : Launch} {e : Env} {R : Room} {s : State} {m : MethodId} {args : Array Value} {below : List Frame} {meth : Method} {c : Code} {H : Heap} {locs : List Loc} {cells slots : Nat} {Q : State → Prop}
variable {cc : ByteArray} {pc : Nat} {ls : Array Slot} {rest st0 : List Value} {A : Nat → Prop} {ad : Nat → Nat} {D : va_G} {tys : List (ClassId × FieldType)} {L : List Nat} {g : Nat → va_E} {a : Nat}
variable {y : MethodName} {bytes : ByteArray} {maxL nL n index : Nat} {ret : Option FieldType} {ws Ts : List Cond} {rm : Room} {own C : String} {As : List Value}
theorem pg_at (hL : a ∈ L) {x : va_E} (hg : g a = x) : ∃ k : Nat, (va_pl L g)[k]? = some (a, x) := by
  obtain ⟨k, hk⟩ := va_pl_get (X := []) (f := g) hL
  exact ⟨k, by rw [← hg]; exact hk⟩
theorem pg_set {x x1 : va_E} {k : Nat} (hD : va_D A (va_pl L g)) (hL : a ∈ L) (hg : g a = x) (hk : (va_pl L g)[k]? = some (a, x)) : (va_pl L g).set k (a, x1) = va_pl L (va_up g a x1) := by
  have h := va_pl_set (X := []) (e := x1) hD hL (k := k) (by rw [hg]; exact hk)
  exact h
/-- getfield of an object of the world -/
theorem pg_get (hx : p.tables.exec = Jvm.exec) (hb : c.code = cc) {T : u_T} {N ci : Nat} (hts : ∀ w ∈ Ts, w.before args s = true) (hin : ∀ w ∈ u_ws C T N, w ∈ Ts) (hown : s.vm.findClass own = some m.cls) (hK : va_K D vwCl tys s) (hP : va_P D vwCl (va_pl L g) H) (hL : a ∈ L) {fs : List Value} (hg : g a = .inr (ci, fs))
    (hc : vwCl[ci]? = some (C, T, N)) (k : Nat) (hk : k < N) (hlink : (Cond.fieldLink own index (T k).1 (T k).2.1 (T k).2.2.1).before args s = true) {v : Value} (hv : fs[k]? = some v) (hdg : decode cc pc = .ok (.getfield index, 3))
    (kk : W p l e R s m args below meth c H locs cells slots Q (F0 m (pc + 3) ls (v :: rest))) : W p l e R s m args below meth c H locs cells slots Q (F0 m pc ls (.ref a :: rest)) := by
  obtain ⟨j, hj⟩ := pg_at hL hg
  exact va_get hx hb hts hin hown hK hP j hj hc k hk hlink (fun _ h => h) hv hdg kk
/-- putfield -/
theorem pg_put (hx : p.tables.exec = Jvm.exec) (hb : c.code = cc) {T : u_T} {N ci : Nat} (hts : ∀ w ∈ Ts, w.before args s = true) (hin : ∀ w ∈ u_ws C T N, w ∈ Ts) (ty0 : Nat → FieldType) (hty : ∀ k, k < N → parseFieldDescriptor (T k).2.2.1 = some (ty0 k)) (hnm : ∀ a, a < N → ∀ b, b < N → a ≠ b → (T a).2.1 ≠ (T b).2.1) (hown : s.vm.findClass own = some m.cls) (hK : va_K D vwCl tys s) (hP : va_P D vwCl (va_pl L g) H) (hD : va_D A (va_pl L g)) (hS : va_S A s.heap H locs)
    (hL : a ∈ L) {fs : List Value} (hg : g a = .inr (ci, fs)) (hc : vwCl[ci]? = some (C, T, N)) (k : Nat) (hk : k < N) (hlink : (Cond.fieldLink own index (T k).1 (T k).2.1 (T k).2.2.1).before args s = true) (hfin : (T k).2.2.2 = false) {ty : FieldType} {v : Value} (hd : parseFieldDescriptor (T k).2.2.1 = some ty) (hn : narrow ty v = v) (hfit : fits ty v = true) (hl : k < fs.length) (hdg : decode cc pc = .ok (.putfield index, 3))
    (kk : ∀ (H1 : Heap) (locs1 : List Loc), va_P D vwCl (va_pl L (va_up g a (.inr (ci, fs.set k v)))) H1 → va_D A (va_pl L (va_up g a (.inr (ci, fs.set k v)))) → va_S A s.heap H1 locs1 → W p l e R s m args below meth c H1 locs1 cells slots Q (F0 m (pc + 3) ls rest)) : W p l e R s m args below meth c H locs cells slots Q (F0 m pc ls (v :: .ref a :: rest)) := by
  obtain ⟨j, hj⟩ := pg_at hL hg
  refine va_put hx hb hts hin ty0 hty hnm hown hK hP hD hS j hj hc k hk hlink (fun _ h => h) hfin hd hn hfit hl hdg (fun H1 locs1 h1 h2 h3 => ?_)
  rw [pg_set hD hL hg hj] at h1 h2
  exact kk H1 locs1 h1 h2 h3
/-- a long of an array -/
theorem pg_lald (hx : p.tables.exec = Jvm.exec) (hb : c.code = cc) (hK : va_K D vwCl tys s) (hP : va_P D vwCl (va_pl L g) H) (t0 : Nat) {cA : ClassId} {n : Nat} {f : Nat → Int64} (hL : a ∈ L) (hg : g a = .inl (cA, n, .inr (.inl f))) (ht : tys[t0]? = some (cA, .long)) {i : Int32} (hin : vp_in i n) (hdg : decode cc pc = .ok (.laload, 1))
    (kk : W p l e R s m args below meth c H locs cells slots Q (F0 m (pc + 1) ls (.long (f i.toNatClampNeg) :: rest))) : W p l e R s m args below meth c H locs cells slots Q (F0 m pc ls (.int i :: .ref a :: rest)) := by
  obtain ⟨j, hj⟩ := pg_at hL hg
  exact va_lald hx hb hK hP j t0 hj ht hin hdg kk
theorem pg_zald (hx : p.tables.exec = Jvm.exec) (hb : c.code = cc) (hK : va_K D vwCl tys s) (hP : va_P D vwCl (va_pl L g) H) (t0 : Nat) {cA : ClassId} {n : Nat} {f : Nat → Int32} (hL : a ∈ L) (hg : g a = .inl (cA, n, .inl f)) (ht : tys[t0]? = some (cA, .boolean)) {i : Int32} (hin : vp_in i n) (hdg : decode cc pc = .ok (.baload, 1))
    (kk : W p l e R s m args below meth c H locs cells slots Q (F0 m (pc + 1) ls (.int (f i.toNatClampNeg) :: rest))) : W p l e R s m args below meth c H locs cells slots Q (F0 m pc ls (.int i :: .ref a :: rest)) := by
  obtain ⟨j, hj⟩ := pg_at hL hg
  exact va_zald hx hb hK hP j t0 hj ht hin hdg kk
theorem pg_aald (hx : p.tables.exec = Jvm.exec) (hb : c.code = cc) (hK : va_K D vwCl tys s) (hP : va_P D vwCl (va_pl L g) H) (t0 : Nat) {cA : ClassId} {C : String} {n : Nat} {f : Nat → Option Nat} (hL : a ∈ L) (hg : g a = .inl (cA, n, .inr (.inr (.inr (.inr f))))) (ht : tys[t0]? = some (cA, .object C)) {i : Int32} (hin : vp_in i n) (hdg : decode cc pc = .ok (.aaload, 1))
    (kk : W p l e R s m args below meth c H locs cells slots Q (F0 m (pc + 1) ls (va_rf (f i.toNatClampNeg) :: rest))) : W p l e R s m args below meth c H locs cells slots Q (F0 m pc ls (.int i :: .ref a :: rest)) := by
  obtain ⟨j, hj⟩ := pg_at hL hg
  exact va_aldq hx hb hK hP j t0 hj ht hin hdg kk
theorem pg_alen (hx : p.tables.exec = Jvm.exec) (hb : c.code = cc) (hK : va_K D vwCl tys s) (hP : va_P D vwCl (va_pl L g) H) (t0 : Nat) {cA : ClassId} {x : vp_A} (hL : a ∈ L) (hg : g a = .inl (cA, x)) {ty : FieldType} (ht : tys[t0]? = some (cA, ty)) {v : Int32} (hv : Int32.ofNat x.1 = v) (hdg : decode cc pc = .ok (.arraylength, 1))
    (kk : W p l e R s m args below meth c H locs cells slots Q (F0 m (pc + 1) ls (.int v :: rest))) : W p l e R s m args below meth c H locs cells slots Q (F0 m pc ls (.ref a :: rest)) := by
  obtain ⟨j, hj⟩ := pg_at hL hg
  exact va_alen hx hb hK hP j t0 hj ht hv hdg kk
theorem pg_last (hx : p.tables.exec = Jvm.exec) (hb : c.code = cc) (hK : va_K D vwCl tys s) (hP : va_P D vwCl (va_pl L g) H) (hD : va_D A (va_pl L g)) (hS : va_S A s.heap H locs) (t0 : Nat) {cA : ClassId} {n : Nat} {f : Nat → Int64} (hL : a ∈ L) (hg : g a = .inl (cA, n, .inr (.inl f))) (ht : tys[t0]? = some (cA, .long)) {i : Int32} {x : Int64} (hin : vp_in i n) (hdg : decode cc pc = .ok (.lastore, 1))
    (kk : ∀ (H1 : Heap) (locs1 : List Loc), va_P D vwCl (va_pl L (va_up g a (.inl (cA, n, .inr (.inl (vp_updL f i.toNatClampNeg x)))))) H1 → va_D A (va_pl L (va_up g a (.inl (cA, n, .inr (.inl (vp_updL f i.toNatClampNeg x)))))) → va_S A s.heap H1 locs1 → W p l e R s m args below meth c H1 locs1 cells slots Q (F0 m (pc + 1) ls rest)) : W p l e R s m args below meth c H locs cells slots Q (F0 m pc ls (.long x :: .int i :: .ref a :: rest)) := by
  obtain ⟨j, hj⟩ := pg_at hL hg
  refine va_last hx hb hK hP hD hS j t0 hj ht hin hdg (fun H1 locs1 h1 h2 h3 => ?_)
  rw [pg_set hD hL hg hj] at h1 h2
  exact kk H1 locs1 h1 h2 h3
theorem pg_zast (hx : p.tables.exec = Jvm.exec) (hb : c.code = cc) (hK : va_K D vwCl tys s) (hP : va_P D vwCl (va_pl L g) H) (hD : va_D A (va_pl L g)) (hS : va_S A s.heap H locs) (t0 : Nat) {cA : ClassId} {n : Nat} {f : Nat → Int32} (hL : a ∈ L) (hg : g a = .inl (cA, n, .inl f)) (ht : tys[t0]? = some (cA, .boolean)) {i : Int32} {x : Int32} (hin : vp_in i n) (hdg : decode cc pc = .ok (.bastore, 1))
    (kk : ∀ (H1 : Heap) (locs1 : List Loc), va_P D vwCl (va_pl L (va_up g a (.inl (cA, n, .inl (upd f i.toNatClampNeg (vp_nar .boolean x)))))) H1 → va_D A (va_pl L (va_up g a (.inl (cA, n, .inl (upd f i.toNatClampNeg (vp_nar .boolean x)))))) → va_S A s.heap H1 locs1 → W p l e R s m args below meth c H1 locs1 cells slots Q (F0 m (pc + 1) ls rest)) : W p l e R s m args below meth c H locs cells slots Q (F0 m pc ls (.int x :: .int i :: .ref a :: rest)) := by
  obtain ⟨j, hj⟩ := pg_at hL hg
  refine va_zast hx hb hK hP hD hS j t0 hj ht hin hdg (fun H1 locs1 h1 h2 h3 => ?_)
  rw [pg_set hD hL hg hj] at h1 h2
  exact kk H1 locs1 h1 h2 h3
/-- the receiver of a call is an object of the world -/
theorem pg_recv {T : u_T} {N ci : Nat} {fs : List Value} (hK : va_K D vwCl tys s) (hP : va_P D vwCl (va_pl L g) H) (hL : a ∈ L) (hg : g a = .inr (ci, fs)) (hc : vwCl[ci]? = some (C, T, N)) : ∃ cell : Cell, H[a]? = some cell ∧ cell.vm.isStatics = false ∧ s.vm.findClass C = some cell.cls := by
  obtain ⟨j, hj⟩ := pg_at hL hg
  exact va_recv hK hP hc hj
end HB
