/-! ROWS OF MY OWN: the constants of Kind, pure methods, comparisons of longs, the world as a map from addresses to cells. -/
def kSide (i : Nat) : Int64 := if i = 0 then -9223372036854775808 else -2147483648
def kHid (i : Nat) : Int64 := if i = 0 then 4503599627370496 else 8388608
def kOne (i : Nat) : Int64 := if i = 0 then 4607182418800017408 else 1065353216
def kInf (i : Nat) : Int64 := if i = 0 then 9218868437227405312 else 2139095040
def kFrac (i : Nat) : Int32 := if i = 0 then 52 else 23
def kBias (i : Nat) : Int32 := if i = 0 then 1023 else 127
/-- the two constants of Kind, at ad 0 (FINE) and ad 1 (COARSE), and what their fields hold -/
def KC (ad : Nat → Nat) (A : Nat → Prop) (U : State) (H : Heap) : Prop :=
  va_En RX0 "LNeedleBoard$Kind;" ["FINE", "COARSE"] [] ad A U H ∧ va_Ef 2 RX0 "fractionBits" "I" (fun i => .int (kFrac i)) ad A U H ∧ va_Ef 2 RX0 "bias" "I" (fun i => .int (kBias i)) ad A U H ∧
  va_Ef 2 RX0 "sideBits" "J" (fun i => .long (kSide i)) ad A U H ∧ va_Ef 2 RX0 "hiddenBit" "J" (fun i => .long (kHid i)) ad A U H ∧ va_Ef 2 RX0 "one" "J" (fun i => .long (kOne i)) ad A U H ∧ va_Ef 2 RX0 "infinity" "J" (fun i => .long (kInf i)) ad A U H
theorem KC.moved {ad : Nat → Nat} {A : Nat → Prop} {u U : State} {H : Heap} (hvm : u.vm.Alike U.vm) (h : KC ad A u H) : KC ad A U H :=
  ⟨va_En.moved hvm h.1, va_Ef.moved hvm h.2.1, va_Ef.moved hvm h.2.2.1, va_Ef.moved hvm h.2.2.2.1, va_Ef.moved hvm h.2.2.2.2.1, va_Ef.moved hvm h.2.2.2.2.2.1, va_Ef.moved hvm h.2.2.2.2.2.2⟩
theorem KC.kept {ad : Nat → Nat} {A : Nat → Prop} {U : State} {H H1 : Heap} (h : KC ad A U H) (hq : ∀ a : Nat, a < H.size → ¬ A a → H1[a]? = H[a]?) : KC ad A U H1 :=
  ⟨h.1.kept hq, h.2.1.kept hq, h.2.2.1.kept hq, h.2.2.2.1.kept hq, h.2.2.2.2.1.kept hq, h.2.2.2.2.2.1.kept hq, h.2.2.2.2.2.2.kept hq⟩
theorem KC.narrow {ad : Nat → Nat} {A B : Nat → Prop} {U : State} {H : Heap} (h : KC ad A U H) (hAB : ∀ q, B q → A q) : KC ad B U H :=
  ⟨h.1.narrow hAB, h.2.1.narrow hAB, h.2.2.1.narrow hAB, h.2.2.2.1.narrow hAB, h.2.2.2.2.1.narrow hAB, h.2.2.2.2.2.1.narrow hAB, h.2.2.2.2.2.2.narrow hAB⟩
theorem KC.pre {ad : Nat → Nat} {A : Nat → Prop} {s : State} {H : Heap} {locs : List Loc} (h : KC ad A s s.heap) (hS : va_S A s.heap H locs) {U : State} (hU : U.heap = H) (hW : s.WarmedH U.vm) : KC ad (fun _ => False) U U.heap := by
  rw [hU]
  exact ((h.kept hS.2.1).narrow (fun _ z => z.elim)).moved hW.alike
/-- a pure method's start: its arguments, and the constants somewhere -/
def PK (ad : Nat → Nat) (av : List Value) : Array Value → State → Prop := fun v U => v = av.toArray ∧ KC ad (fun _ => False) U U.heap
theorem PK.blind (ad : Nat → Nat) (av : List Value) : FrameBlind (PK ad av) := fun _ _ _ _ h => ⟨h.1, h.2.moved (Vm.Alike.refl _)⟩
/-- .. of a method that needs nothing but its arguments -/
def P0 (av : List Value) : Array Value → State → Prop := fun v _ => v = av.toArray
theorem P0.blind (av : List Value) : FrameBlind (P0 av) := fun _ _ _ _ h => h
section PB
variable {p : Program} {l : Launch} {e : Env} {R : Room} {s : State} {m : MethodId} {args : Array Value} {below : List Frame} {meth : Method} {c : Code} {H : Heap} {locs : List Loc} {cells slots : Nat} {Q : State → Prop}
variable {cc : ByteArray} {pc : Nat} {ls : Array Slot} {rest st0 : List Value} {A : Nat → Prop} {ad : Nat → Nat}
variable {y : MethodName} {bytes : ByteArray} {maxL nL n index i : Nat} {ret : Option FieldType} {ws Ts : List Cond} {rm : Room} {own : String} {As : List Value}
/-- a pure method of a constant of Kind is called -/
theorem pc_V {r : Value} (S : CallFix p m c cc nL s args Ts own) (hM : Met l y ws rm (PK ad (.ref (ad i) :: As)) (k2_QcV r) 0 0 (fun _ => False)) (cw : CallW R s args own RX0 index y bytes maxL ret ws rm 0 0 n)
    (hKC : KC ad A s s.heap) (hS : va_S A s.heap H locs) (hi : i < 2) (hn : As.length = n) (hl : ls.size = nL) (hst : st0 = As.reverse ++ .ref (ad i) :: rest) (hW : 2 * (F0 m pc ls rest).monitorRoom + (rest.map fun v => v.category).sum ≤ 8)
    (hdg : decode cc pc = .ok (.invokevirtual index, 3)) (hf : cells + 0 ≤ R.cells ∧ slots + 0 ≤ R.slots) (kk : W p l e R s m args below meth c H locs cells slots Q (F0 m (pc + 3) ls (r :: rest))) : W p l e R s m args below meth c H locs cells slots Q (F0 m pc ls st0) := by
  subst hst
  exact W.callV (W.runV S hM cw ⟨PK.blind ad _, va_recvE hKC.1 hi hS, fun U hU hW => ⟨rfl, hKC.pre hS hU hW⟩⟩ rfl hn hl rfl hW hdg hf) kk
/-- a pure static method that needs the constants -/
theorem pc_S {r : Value} (S : CallFix p m c cc nL s args Ts own) (hM : Met l y ws rm (PK ad As) (k2_QcV r) 0 0 (fun _ => False)) (cw : CallB R s args own index y bytes maxL ret ws rm 0 0 n ∧ (Cond.static y).before args s = true)
    (hKC : KC ad A s s.heap) (hS : va_S A s.heap H locs) (hn : As.length = n) (hl : ls.size = nL) (hst : st0 = As.reverse ++ rest) (hW : 2 * (F0 m pc ls rest).monitorRoom + (rest.map fun v => v.category).sum ≤ 8)
    (hdg : decode cc pc = .ok (.invokestatic index, 3)) (hf : cells + 0 ≤ R.cells ∧ slots + 0 ≤ R.slots) (kk : W p l e R s m args below meth c H locs cells slots Q (F0 m (pc + 3) ls (r :: rest))) : W p l e R s m args below meth c H locs cells slots Q (F0 m pc ls st0) := by
  subst hst
  exact W.callV (W.runS S hM cw ⟨PK.blind ad _, fun U hU hW => ⟨rfl, hKC.pre hS hU hW⟩⟩ rfl hn hl rfl hW hdg hf) kk
/-- a pure static method of its arguments alone -/
theorem pc_0 {r : Value} (S : CallFix p m c cc nL s args Ts own) (hM : Met l y ws rm (P0 As) (k2_QcV r) 0 0 (fun _ => False)) (cw : CallB R s args own index y bytes maxL ret ws rm 0 0 n ∧ (Cond.static y).before args s = true)
    (hn : As.length = n) (hl : ls.size = nL) (hst : st0 = As.reverse ++ rest) (hW : 2 * (F0 m pc ls rest).monitorRoom + (rest.map fun v => v.category).sum ≤ 8)
    (hdg : decode cc pc = .ok (.invokestatic index, 3)) (hf : cells + 0 ≤ R.cells ∧ slots + 0 ≤ R.slots) (kk : W p l e R s m args below meth c H locs cells slots Q (F0 m (pc + 3) ls (r :: rest))) : W p l e R s m args below meth c H locs cells slots Q (F0 m pc ls st0) := by
  subst hst
  exact W.callV (W.runS S hM cw ⟨P0.blind _, fun U hU hW => rfl⟩ rfl hn hl rfl hW hdg hf) kk
/-! a comparison of two longs and the branch behind it -/
theorem pl_eq (hx : p.tables.exec = Jvm.exec) (hb : c.code = cc) {x y : Int64} {off : Int} {tgt : Nat} (d1 : decode cc pc = .ok (.lcmp, 1)) (d2 : decode cc (pc + 1) = .ok (.ifCond .eq off, 3)) (ht : ((pc + 1 : Nat) : Int) + off = (tgt : Int))
    (kt : x = y → W p l e R s m args below meth c H locs cells slots Q (F0 m tgt ls rest)) (kf : ¬ x = y → W p l e R s m args below meth c H locs cells slots Q (F0 m (pc + 4) ls rest)) : W p l e R s m args below meth c H locs cells slots Q (F0 m pc ls (.long y :: .long x :: rest)) :=
  W.lcmp hx hb d1 (lv_if_eq hx hb d2 ht (fun h => kt ((lg_cmp_eq x y).mp h)) (fun h => kf (fun z => h ((lg_cmp_eq x y).mpr z))))
theorem pl_ne (hx : p.tables.exec = Jvm.exec) (hb : c.code = cc) {x y : Int64} {off : Int} {tgt : Nat} (d1 : decode cc pc = .ok (.lcmp, 1)) (d2 : decode cc (pc + 1) = .ok (.ifCond .ne off, 3)) (ht : ((pc + 1 : Nat) : Int) + off = (tgt : Int))
    (kt : ¬ x = y → W p l e R s m args below meth c H locs cells slots Q (F0 m tgt ls rest)) (kf : x = y → W p l e R s m args below meth c H locs cells slots Q (F0 m (pc + 4) ls rest)) : W p l e R s m args below meth c H locs cells slots Q (F0 m pc ls (.long y :: .long x :: rest)) :=
  W.lcmp hx hb d1 (lv_if_ne hx hb d2 ht (fun h => kt (fun z => h ((lg_cmp_eq x y).mpr z))) (fun h => kf ((lg_cmp_eq x y).mp h)))
theorem pl_lt (hx : p.tables.exec = Jvm.exec) (hb : c.code = cc) {x y : Int64} {off : Int} {tgt : Nat} (d1 : decode cc pc = .ok (.lcmp, 1)) (d2 : decode cc (pc + 1) = .ok (.ifCond .lt off, 3)) (ht : ((pc + 1 : Nat) : Int) + off = (tgt : Int))
    (kt : x < y → W p l e R s m args below meth c H locs cells slots Q (F0 m tgt ls rest)) (kf : ¬ x < y → W p l e R s m args below meth c H locs cells slots Q (F0 m (pc + 4) ls rest)) : W p l e R s m args below meth c H locs cells slots Q (F0 m pc ls (.long y :: .long x :: rest)) :=
  W.lcmp hx hb d1 (lv_if_lt hx hb d2 ht (fun h => kt ((lg_cmp_lt x y).mp h)) (fun h => kf (fun z => h ((lg_cmp_lt x y).mpr z))))
theorem pl_ge (hx : p.tables.exec = Jvm.exec) (hb : c.code = cc) {x y : Int64} {off : Int} {tgt : Nat} (d1 : decode cc pc = .ok (.lcmp, 1)) (d2 : decode cc (pc + 1) = .ok (.ifCond .ge off, 3)) (ht : ((pc + 1 : Nat) : Int) + off = (tgt : Int))
    (kt : y ≤ x → W p l e R s m args below meth c H locs cells slots Q (F0 m tgt ls rest)) (kf : ¬ y ≤ x → W p l e R s m args below meth c H locs cells slots Q (F0 m (pc + 4) ls rest)) : W p l e R s m args below meth c H locs cells slots Q (F0 m pc ls (.long y :: .long x :: rest)) :=
  W.lcmp hx hb d1 (lv_if_ge hx hb d2 ht (fun h => kt ((lg_cmp_ge x y).mp h)) (fun h => kf (fun z => h ((lg_cmp_ge x y).mpr z))))
theorem pl_gt (hx : p.tables.exec = Jvm.exec) (hb : c.code = cc) {x y : Int64} {off : Int} {tgt : Nat} (d1 : decode cc pc = .ok (.lcmp, 1)) (d2 : decode cc (pc + 1) = .ok (.ifCond .gt off, 3)) (ht : ((pc + 1 : Nat) : Int) + off = (tgt : Int))
    (kt : y < x → W p l e R s m args below meth c H locs cells slots Q (F0 m tgt ls rest)) (kf : ¬ y < x → W p l e R s m args below meth c H locs cells slots Q (F0 m (pc + 4) ls rest)) : W p l e R s m args below meth c H locs cells slots Q (F0 m pc ls (.long y :: .long x :: rest)) :=
  W.lcmp hx hb d1 (lv_if_gt hx hb d2 ht (fun h => kt ((lg_cmp_gt x y).mp h)) (fun h => kf (fun z => h ((lg_cmp_gt x y).mpr z))))
theorem pl_le (hx : p.tables.exec = Jvm.exec) (hb : c.code = cc) {x y : Int64} {off : Int} {tgt : Nat} (d1 : decode cc pc = .ok (.lcmp, 1)) (d2 : decode cc (pc + 1) = .ok (.ifCond .le off, 3)) (ht : ((pc + 1 : Nat) : Int) + off = (tgt : Int))
    (kt : x ≤ y → W p l e R s m args below meth c H locs cells slots Q (F0 m tgt ls rest)) (kf : ¬ x ≤ y → W p l e R s m args below meth c H locs cells slots Q (F0 m (pc + 4) ls rest)) : W p l e R s m args below meth c H locs cells slots Q (F0 m pc ls (.long y :: .long x :: rest)) :=
  W.lcmp hx hb d1 (lv_if_le hx hb d2 ht (fun h => kt ((lg_cmp_le x y).mp h)) (fun h => kf (fun z => h ((lg_cmp_le x y).mpr z))))
theorem pk_side (hx : p.tables.exec = Jvm.exec) (hb : c.code = cc) (hKC : KC ad A s s.heap) (hi : i < 2) (hS : va_S A s.heap H locs) (hown : s.vm.findClass own = some m.cls) (hlink : (Cond.fieldLink own index RX0 "sideBits" "J").before args s = true) (hdg : decode cc pc = .ok (.getfield index, 3))
    (kk : W p l e R s m args below meth c H locs cells slots Q (F0 m (pc + 3) ls (.long (kSide i) :: rest))) : W p l e R s m args below meth c H locs cells slots Q (F0 m pc ls (.ref (ad i) :: rest)) := va_getX hx hb hKC.2.2.2.1 hi hS hown hlink (fun _ h => h) hdg kk
theorem pk_hid (hx : p.tables.exec = Jvm.exec) (hb : c.code = cc) (hKC : KC ad A s s.heap) (hi : i < 2) (hS : va_S A s.heap H locs) (hown : s.vm.findClass own = some m.cls) (hlink : (Cond.fieldLink own index RX0 "hiddenBit" "J").before args s = true) (hdg : decode cc pc = .ok (.getfield index, 3))
    (kk : W p l e R s m args below meth c H locs cells slots Q (F0 m (pc + 3) ls (.long (kHid i) :: rest))) : W p l e R s m args below meth c H locs cells slots Q (F0 m pc ls (.ref (ad i) :: rest)) := va_getX hx hb hKC.2.2.2.2.1 hi hS hown hlink (fun _ h => h) hdg kk
theorem pk_one (hx : p.tables.exec = Jvm.exec) (hb : c.code = cc) (hKC : KC ad A s s.heap) (hi : i < 2) (hS : va_S A s.heap H locs) (hown : s.vm.findClass own = some m.cls) (hlink : (Cond.fieldLink own index RX0 "one" "J").before args s = true) (hdg : decode cc pc = .ok (.getfield index, 3))
    (kk : W p l e R s m args below meth c H locs cells slots Q (F0 m (pc + 3) ls (.long (kOne i) :: rest))) : W p l e R s m args below meth c H locs cells slots Q (F0 m pc ls (.ref (ad i) :: rest)) := va_getX hx hb hKC.2.2.2.2.2.1 hi hS hown hlink (fun _ h => h) hdg kk
theorem pk_inf (hx : p.tables.exec = Jvm.exec) (hb : c.code = cc) (hKC : KC ad A s s.heap) (hi : i < 2) (hS : va_S A s.heap H locs) (hown : s.vm.findClass own = some m.cls) (hlink : (Cond.fieldLink own index RX0 "infinity" "J").before args s = true) (hdg : decode cc pc = .ok (.getfield index, 3))
    (kk : W p l e R s m args below meth c H locs cells slots Q (F0 m (pc + 3) ls (.long (kInf i) :: rest))) : W p l e R s m args below meth c H locs cells slots Q (F0 m pc ls (.ref (ad i) :: rest)) := va_getX hx hb hKC.2.2.2.2.2.2 hi hS hown hlink (fun _ h => h) hdg kk
theorem pk_frac (hx : p.tables.exec = Jvm.exec) (hb : c.code = cc) (hKC : KC ad A s s.heap) (hi : i < 2) (hS : va_S A s.heap H locs) (hown : s.vm.findClass own = some m.cls) (hlink : (Cond.fieldLink own index RX0 "fractionBits" "I").before args s = true) (hdg : decode cc pc = .ok (.getfield index, 3))
    (kk : W p l e R s m args below meth c H locs cells slots Q (F0 m (pc + 3) ls (.int (kFrac i) :: rest))) : W p l e R s m args below meth c H locs cells slots Q (F0 m pc ls (.ref (ad i) :: rest)) := va_getX hx hb hKC.2.1 hi hS hown hlink (fun _ h => h) hdg kk
theorem pk_bias (hx : p.tables.exec = Jvm.exec) (hb : c.code = cc) (hKC : KC ad A s s.heap) (hi : i < 2) (hS : va_S A s.heap H locs) (hown : s.vm.findClass own = some m.cls) (hlink : (Cond.fieldLink own index RX0 "bias" "I").before args s = true) (hdg : decode cc pc = .ok (.getfield index, 3))
    (kk : W p l e R s m args below meth c H locs cells slots Q (F0 m (pc + 3) ls (.int (kBias i) :: rest))) : W p l e R s m args below meth c H locs cells slots Q (F0 m pc ls (.ref (ad i) :: rest)) := va_getX hx hb hKC.2.2.1 hi hS hown hlink (fun _ h => h) hdg kk
theorem pk_fine (hx : p.tables.exec = Jvm.exec) (hb : c.code = cc) (hKC : KC ad A s s.heap) (hS : va_S A s.heap H locs) (hown : s.vm.findClass own = some m.cls) (hlink : (Cond.fieldLink own index RX0 "FINE" "LNeedleBoard$Kind;").before args s = true) (hdg : decode cc pc = .ok (.getstatic index, 3))
    (kk : W p l e R s m args below meth c H locs cells slots Q (F0 m (pc + 3) ls (.ref (ad 0) :: rest))) : W p l e R s m args below meth c H locs cells slots Q (F0 m pc ls rest) := va_gets hx hb (hKC.1.1 0 (by decide)).1 hS hown hlink (fun _ h => h) hdg kk
theorem pk_coarse (hx : p.tables.exec = Jvm.exec) (hb : c.code = cc) (hKC : KC ad A s s.heap) (hS : va_S A s.heap H locs) (hown : s.vm.findClass own = some m.cls) (hlink : (Cond.fieldLink own index RX0 "COARSE" "LNeedleBoard$Kind;").before args s = true) (hdg : decode cc pc = .ok (.getstatic index, 3))
    (kk : W p l e R s m args below meth c H locs cells slots Q (F0 m (pc + 3) ls (.ref (ad 1) :: rest))) : W p l e R s m args below meth c H locs cells slots Q (F0 m pc ls rest) := va_gets hx hb (hKC.1.1 1 (by decide)).1 hS hown hlink (fun _ h => h) hdg kk
theorem pa_ne (hx : p.tables.exec = Jvm.exec) (hb : c.code = cc) (hKC : KC ad A s s.heap) {j : Nat} (hi : i < 2) (hj : j < 2) {off : Int} {tgt : Nat} (hdg : decode cc pc = .ok (.if_acmp .ne off, 3)) (ht : (pc : Int) + off = (tgt : Int))
    (kt : ¬ i = j → W p l e R s m args below meth c H locs cells slots Q (F0 m tgt ls rest)) (kf : i = j → W p l e R s m args below meth c H locs cells slots Q (F0 m (pc + 3) ls rest)) : W p l e R s m args below meth c H locs cells slots Q (F0 m pc ls (.ref (ad j) :: .ref (ad i) :: rest)) :=
  lv_acmp_ne (rx := some (ad i)) (ry := some (ad j)) hx hb hdg ht (fun h => kt (fun e => h (by rw [e]))) (fun h => kf (hKC.1.2 i j hi hj (Option.some.inj h)))
theorem pa_eq (hx : p.tables.exec = Jvm.exec) (hb : c.code = cc) (hKC : KC ad A s s.heap) {j : Nat} (hi : i < 2) (hj : j < 2) {off : Int} {tgt : Nat} (hdg : decode cc pc = .ok (.if_acmp .eq off, 3)) (ht : (pc : Int) + off = (tgt : Int))
    (kt : i = j → W p l e R s m args below meth c H locs cells slots Q (F0 m tgt ls rest)) (kf : ¬ i = j → W p l e R s m args below meth c H locs cells slots Q (F0 m (pc + 3) ls rest)) : W p l e R s m args below meth c H locs cells slots Q (F0 m pc ls (.ref (ad j) :: .ref (ad i) :: rest)) :=
  lv_acmp_eq (rx := some (ad i)) (ry := some (ad j)) hx hb hdg ht (fun h => kt (hKC.1.2 i j hi hj (Option.some.inj h))) (fun h => kf (fun e => h (by rw [e])))
end PB
