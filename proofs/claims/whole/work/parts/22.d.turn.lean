/-! one turn of the law: what stands through it -/
structure LC (p : Program) (l : Launch) (s : State) (m : MethodId) (meth : Method) (c : Code) (b Lx : Nat) (xs : Nat → Int32) (D : va_G) (tys : List (ClassId × FieldType)) (ad : Nat → Nat) (cyJ cyZ cyN : ClassId) : Prop where
  hfl : l.stackTraces = false
  hx : p.tables.exec = Jvm.exec
  hb : c.code = cL_law
  hml : c.maxLocals = 8
  hown : s.vm.findClass RL = some m.cls
  hts : ∀ w ∈ wsL_law, w.before #[Value.ref b] s = true
  hX : va_X b Lx xs s s.heap
  hbl : b < s.heap.size
  hK : va_K D vwCl tys s
  hKC : KC ad (fun q : Nat => s.heap.size ≤ q) s s.heap
  hTC : TC (fun q : Nat => s.heap.size ≤ q) s s.heap
  hXN : XN s
  htJ : tys[0]? = some (cyJ, .long)
  htZ : tys[1]? = some (cyZ, .boolean)
  htN : tys[2]? = some (cyN, .object RX1)
structure LW (s : State) (D : va_G) (ad : Nat → Nat) (cyJ cyZ cyN : ClassId) (ob arr out om fz cj : Nat) (L : List Nat) (g : Nat → va_E) (H : Heap) (locs : List Loc) (N : Nat) (kd na : Nat → Nat) (fa : Nat → Option Nat) (ff : Nat → Int32) (cv : Nat → Int64) (mvs tna kt : Int32) (twi : Int64) : Prop where
  hP : va_P D vwCl (va_pl L g) H
  hD : va_D (fun q : Nat => s.heap.size ≤ q) (va_pl L g)
  hS : va_S (fun q : Nat => s.heap.size ≤ q) s.heap H locs
  hLA : ∀ q ∈ L, s.heap.size ≤ q
  I : ST ob arr out om fz cj L N kd na fa ff cv
  hB : BS ad cyN ob arr N kd na fa mvs twi tna cv g
  hM : MS cyJ cyZ om fz cj N ff cv mvs twi tna kt g
  hO : ∃ fo : Nat → Int64, g out = .inl (cyJ, 1, .inr (.inl fo))
/-- the rest of the law, from the end of a turn -/
def NX (p : Program) (l : Launch) (e : Env) (s : State) (m : MethodId) (below : List Frame) (meth : Method) (c : Code) (b : Nat) (D : va_G) (ad : Nat → Nat) (cyJ cyZ cyN : ClassId) (ob arr out om fz cj : Nat) (iv : Int32) (cells slots : Nat) (Q : State → Prop) : Prop :=
  ∀ (L : List Nat) (g : Nat → va_E) (H : Heap) (locs : List Loc) (N : Nat) (kd na : Nat → Nat) (fa : Nat → Option Nat) (ff : Nat → Int32) (cv : Nat → Int64) (mvs tna kt : Int32) (twi : Int64) (ls : Array Slot), LW s D ad cyJ cyZ cyN ob arr out om fz cj L g H locs N kd na fa ff cv mvs tna kt twi → lv_has ls 8 [(0, .ref b), (1, .ref ob), (2, .ref om), (3, .ref out), (4, .int iv)] →
    W p l e room_1 s m #[Value.ref b] below meth c H locs cells slots Q (F0 m 1208 ls [])
section LT
variable {s : State} {D : va_G} {ad : Nat → Nat} {cyJ cyZ cyN : ClassId} {ob arr out om fz cj : Nat} {L : List Nat} {g : Nat → va_E} {H : Heap} {locs : List Loc} {N : Nat} {kd na : Nat → Nat} {fa : Nat → Option Nat} {ff : Nat → Int32} {cv : Nat → Int64} {mvs tna kt : Int32} {twi : Int64}
theorem LW.ww {p : Program} {l : Launch} {m : MethodId} {meth : Method} {c : Code} {b Lx : Nat} {xs : Nat → Int32} {tys : List (ClassId × FieldType)} (C : LC p l s m meth c b Lx xs D tys ad cyJ cyZ cyN) (hP : va_P D vwCl (va_pl L g) H) (hD : va_D (fun q : Nat => s.heap.size ≤ q) (va_pl L g)) (hS : va_S (fun q : Nat => s.heap.size ≤ q) s.heap H locs) (hLA : ∀ q ∈ L, s.heap.size ≤ q) : ∀ U : State, U.heap = H → s.vm.Alike U.vm → WW D tys ad L g U :=
  fun U hU hvm => WW.mk hP C.hK hD C.hKC C.hTC hS hLA (fun _ h => h) hU hvm
theorem LW.next {cv' : Nat → Int64} {mvs' tna' kt' k' : Int32} {twi' ret : Int64} {g1 g2 : Nat → va_E} {H2 : Heap} {locs2 : List Loc} (w : LW s D ad cyJ cyZ cyN ob arr out om fz cj L g H locs N kd na fa ff cv mvs tna kt twi) (hp : HP ad cyJ cyN ob arr out om fz cj N kd na fa twi' tna' g mvs' cv' k' ret g1) (hM : MS cyJ cyZ om fz cj N ff cv' mvs' twi' tna' kt' g2) (hk : ∀ q : Nat, q ≠ om → q ≠ fz → q ≠ cj → g2 q = g1 q)
    (hP : va_P D vwCl (va_pl L g2) H2) (hD : va_D (fun q : Nat => s.heap.size ≤ q) (va_pl L g2)) (hS : va_S (fun q : Nat => s.heap.size ≤ q) s.heap H2 locs2) : LW s D ad cyJ cyZ cyN ob arr out om fz cj L g2 H2 locs2 N kd na fa ff cv' mvs' tna' kt' twi' := by
  have I2 := w.I.cells hp.2.1
  obtain ⟨fo, ho, -⟩ := hp.2.2.1
  exact ⟨hP, hD, hS, w.hLA, I2, bs_keep I2 hp.1 hk, hM, ⟨fo, (hk out w.I.out_om w.I.out_fz w.I.out_cj).trans ho⟩⟩
end LT
section LB
variable {p : Program} {l : Launch} {e : Env} {R : Room} {s : State} {m : MethodId} {args : Array Value} {below : List Frame} {meth : Method} {c : Code} {H : Heap} {locs : List Loc} {cells slots : Nat} {Q : State → Prop} {cc : ByteArray} {pc : Nat} {ls : Array Slot} {rest : List Value}
/-- x != 0, as a number -/
theorem lw_bool (hx : p.tables.exec = Jvm.exec) (hb : c.code = cc) {x : Int32} (d1 : decode cc pc = .ok (.ifCond .eq 7, 3)) (d2 : decode cc (pc + 3) = .ok (.iconst 1, 1)) (d3 : decode cc (pc + 4) = .ok (.goto 4, 3)) (d4 : decode cc (pc + 7) = .ok (.iconst 0, 1))
    (k : W p l e R s m args below meth c H locs cells slots Q (F0 m (pc + 8) ls (.int (if x = 0 then 0 else 1) :: rest))) : W p l e R s m args below meth c H locs cells slots Q (F0 m pc ls (.int x :: rest)) := by
  refine lv_if_eq (tgt := pc + 7) hx hb d1 (by omega) (fun z => ?_) (fun z => ?_)
  · rw [if_pos z] at k
    exact lv_iconst (v := 0) hx hb d4 (by decide) k
  · rw [if_neg z] at k
    refine lv_iconst (v := 1) hx hb d2 (by decide) ?_
    exact lv_goto (tgt := pc + 8) hx hb d3 (by omega) k
theorem lw_bool2 (hx : p.tables.exec = Jvm.exec) (hb : c.code = cc) {x : Int32} (d1 : decode cc pc = .ok (.ifCond .eq 7, 3)) (d2 : decode cc (pc + 3) = .ok (.lconst 1, 1)) (d3 : decode cc (pc + 4) = .ok (.goto 4, 3)) (d4 : decode cc (pc + 7) = .ok (.lconst 0, 1))
    (k : W p l e R s m args below meth c H locs cells slots Q (F0 m (pc + 8) ls (.long (if x = 0 then 0 else 1) :: rest))) : W p l e R s m args below meth c H locs cells slots Q (F0 m pc ls (.int x :: rest)) := by
  refine lv_if_eq (tgt := pc + 7) hx hb d1 (by omega) (fun z => ?_) (fun z => ?_)
  · rw [if_pos z] at k
    exact lv_lconst (v := 0) hx hb d4 (by decide) k
  · rw [if_neg z] at k
    refine lv_lconst (v := 1) hx hb d2 (by decide) ?_
    exact lv_goto (tgt := pc + 8) hx hb d3 (by omega) k
end LB
def lJ (a b : Int32) : Int64 := (a.toInt64 <<< ((32 : Int32).toInt64 &&& 63)) ||| (b.toInt64 &&& 4294967295)
