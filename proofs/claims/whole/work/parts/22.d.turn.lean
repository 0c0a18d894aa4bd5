/-! one turn of the law: what stands through it -/
abbrev LC (p : Program) (l : Launch) (s : State) (m : MethodId) (meth : Method) (c : Code) (b Lx : Nat) (xs : Nat → Int32) (D : va_G) (tys : List (ClassId × FieldType)) (ad : Nat → Nat) (cyJ cyZ cyN : ClassId) : Prop :=
  (l.stackTraces = false) ∧
  (p.tables.exec = Jvm.exec) ∧
  (c.code = cL_law) ∧
  (c.maxLocals = 8) ∧
  (s.vm.findClass RL = some m.cls) ∧
  (∀ w ∈ wsL_law, w.before #[Value.ref b] s = true) ∧
  (va_X b Lx xs s s.heap) ∧
  (b < s.heap.size) ∧
  (va_K D vwCl tys s) ∧
  (KC ad (fun q : Nat => s.heap.size ≤ q) s s.heap) ∧
  (TC (fun q : Nat => s.heap.size ≤ q) s s.heap) ∧
  (XN s) ∧
  (tys[0]? = some (cyJ, .long)) ∧
  (tys[1]? = some (cyZ, .boolean)) ∧
  (tys[2]? = some (cyN, .object RX1))
theorem LC.hfl {p : Program} {l : Launch} {s : State} {m : MethodId} {meth : Method} {c : Code} {b Lx : Nat} {xs : Nat → Int32} {D : va_G} {tys : List (ClassId × FieldType)} {ad : Nat → Nat} {cyJ cyZ cyN : ClassId} (h : LC p l s m meth c b Lx xs D tys ad cyJ cyZ cyN) : l.stackTraces = false := h.1
theorem LC.hx {p : Program} {l : Launch} {s : State} {m : MethodId} {meth : Method} {c : Code} {b Lx : Nat} {xs : Nat → Int32} {D : va_G} {tys : List (ClassId × FieldType)} {ad : Nat → Nat} {cyJ cyZ cyN : ClassId} (h : LC p l s m meth c b Lx xs D tys ad cyJ cyZ cyN) : p.tables.exec = Jvm.exec := h.2.1
theorem LC.hb {p : Program} {l : Launch} {s : State} {m : MethodId} {meth : Method} {c : Code} {b Lx : Nat} {xs : Nat → Int32} {D : va_G} {tys : List (ClassId × FieldType)} {ad : Nat → Nat} {cyJ cyZ cyN : ClassId} (h : LC p l s m meth c b Lx xs D tys ad cyJ cyZ cyN) : c.code = cL_law := h.2.2.1
theorem LC.hml {p : Program} {l : Launch} {s : State} {m : MethodId} {meth : Method} {c : Code} {b Lx : Nat} {xs : Nat → Int32} {D : va_G} {tys : List (ClassId × FieldType)} {ad : Nat → Nat} {cyJ cyZ cyN : ClassId} (h : LC p l s m meth c b Lx xs D tys ad cyJ cyZ cyN) : c.maxLocals = 8 := h.2.2.2.1
theorem LC.hown {p : Program} {l : Launch} {s : State} {m : MethodId} {meth : Method} {c : Code} {b Lx : Nat} {xs : Nat → Int32} {D : va_G} {tys : List (ClassId × FieldType)} {ad : Nat → Nat} {cyJ cyZ cyN : ClassId} (h : LC p l s m meth c b Lx xs D tys ad cyJ cyZ cyN) : s.vm.findClass RL = some m.cls := h.2.2.2.2.1
theorem LC.hts {p : Program} {l : Launch} {s : State} {m : MethodId} {meth : Method} {c : Code} {b Lx : Nat} {xs : Nat → Int32} {D : va_G} {tys : List (ClassId × FieldType)} {ad : Nat → Nat} {cyJ cyZ cyN : ClassId} (h : LC p l s m meth c b Lx xs D tys ad cyJ cyZ cyN) : ∀ w ∈ wsL_law, w.before #[Value.ref b] s = true := h.2.2.2.2.2.1
theorem LC.hX {p : Program} {l : Launch} {s : State} {m : MethodId} {meth : Method} {c : Code} {b Lx : Nat} {xs : Nat → Int32} {D : va_G} {tys : List (ClassId × FieldType)} {ad : Nat → Nat} {cyJ cyZ cyN : ClassId} (h : LC p l s m meth c b Lx xs D tys ad cyJ cyZ cyN) : va_X b Lx xs s s.heap := h.2.2.2.2.2.2.1
theorem LC.hbl {p : Program} {l : Launch} {s : State} {m : MethodId} {meth : Method} {c : Code} {b Lx : Nat} {xs : Nat → Int32} {D : va_G} {tys : List (ClassId × FieldType)} {ad : Nat → Nat} {cyJ cyZ cyN : ClassId} (h : LC p l s m meth c b Lx xs D tys ad cyJ cyZ cyN) : b < s.heap.size := h.2.2.2.2.2.2.2.1
theorem LC.hK {p : Program} {l : Launch} {s : State} {m : MethodId} {meth : Method} {c : Code} {b Lx : Nat} {xs : Nat → Int32} {D : va_G} {tys : List (ClassId × FieldType)} {ad : Nat → Nat} {cyJ cyZ cyN : ClassId} (h : LC p l s m meth c b Lx xs D tys ad cyJ cyZ cyN) : va_K D vwCl tys s := h.2.2.2.2.2.2.2.2.1
theorem LC.hKC {p : Program} {l : Launch} {s : State} {m : MethodId} {meth : Method} {c : Code} {b Lx : Nat} {xs : Nat → Int32} {D : va_G} {tys : List (ClassId × FieldType)} {ad : Nat → Nat} {cyJ cyZ cyN : ClassId} (h : LC p l s m meth c b Lx xs D tys ad cyJ cyZ cyN) : KC ad (fun q : Nat => s.heap.size ≤ q) s s.heap := h.2.2.2.2.2.2.2.2.2.1
theorem LC.hTC {p : Program} {l : Launch} {s : State} {m : MethodId} {meth : Method} {c : Code} {b Lx : Nat} {xs : Nat → Int32} {D : va_G} {tys : List (ClassId × FieldType)} {ad : Nat → Nat} {cyJ cyZ cyN : ClassId} (h : LC p l s m meth c b Lx xs D tys ad cyJ cyZ cyN) : TC (fun q : Nat => s.heap.size ≤ q) s s.heap := h.2.2.2.2.2.2.2.2.2.2.1
theorem LC.hXN {p : Program} {l : Launch} {s : State} {m : MethodId} {meth : Method} {c : Code} {b Lx : Nat} {xs : Nat → Int32} {D : va_G} {tys : List (ClassId × FieldType)} {ad : Nat → Nat} {cyJ cyZ cyN : ClassId} (h : LC p l s m meth c b Lx xs D tys ad cyJ cyZ cyN) : XN s := h.2.2.2.2.2.2.2.2.2.2.2.1
theorem LC.htJ {p : Program} {l : Launch} {s : State} {m : MethodId} {meth : Method} {c : Code} {b Lx : Nat} {xs : Nat → Int32} {D : va_G} {tys : List (ClassId × FieldType)} {ad : Nat → Nat} {cyJ cyZ cyN : ClassId} (h : LC p l s m meth c b Lx xs D tys ad cyJ cyZ cyN) : tys[0]? = some (cyJ, .long) := h.2.2.2.2.2.2.2.2.2.2.2.2.1
theorem LC.htZ {p : Program} {l : Launch} {s : State} {m : MethodId} {meth : Method} {c : Code} {b Lx : Nat} {xs : Nat → Int32} {D : va_G} {tys : List (ClassId × FieldType)} {ad : Nat → Nat} {cyJ cyZ cyN : ClassId} (h : LC p l s m meth c b Lx xs D tys ad cyJ cyZ cyN) : tys[1]? = some (cyZ, .boolean) := h.2.2.2.2.2.2.2.2.2.2.2.2.2.1
theorem LC.htN {p : Program} {l : Launch} {s : State} {m : MethodId} {meth : Method} {c : Code} {b Lx : Nat} {xs : Nat → Int32} {D : va_G} {tys : List (ClassId × FieldType)} {ad : Nat → Nat} {cyJ cyZ cyN : ClassId} (h : LC p l s m meth c b Lx xs D tys ad cyJ cyZ cyN) : tys[2]? = some (cyN, .object RX1) := h.2.2.2.2.2.2.2.2.2.2.2.2.2.2
abbrev LW (s : State) (D : va_G) (ad : Nat → Nat) (cyJ cyZ cyN : ClassId) (ob arr out om fz cj : Nat) (L : List Nat) (g : Nat → va_E) (H : Heap) (locs : List Loc) (N : Nat) (kd na : Nat → Nat) (fa : Nat → Option Nat) (ff : Nat → Int32) (cv : Nat → Int64) (mvs tna kt : Int32) (twi : Int64) : Prop :=
  (va_P D vwCl (va_pl L g) H) ∧
  (va_D (fun q : Nat => s.heap.size ≤ q) (va_pl L g)) ∧
  (va_S (fun q : Nat => s.heap.size ≤ q) s.heap H locs) ∧
  (∀ q ∈ L, s.heap.size ≤ q) ∧
  (ST ob arr out om fz cj L N kd na fa ff cv) ∧
  (BS ad cyN ob arr N kd na fa mvs twi tna cv g) ∧
  (MS cyJ cyZ om fz cj N ff cv mvs twi tna kt g) ∧
  (∃ fo : Nat → Int64, g out = .inl (cyJ, 1, .inr (.inl fo)))
theorem LW.hP {s : State} {D : va_G} {ad : Nat → Nat} {cyJ cyZ cyN : ClassId} {ob arr out om fz cj : Nat} {L : List Nat} {g : Nat → va_E} {H : Heap} {locs : List Loc} {N : Nat} {kd na : Nat → Nat} {fa : Nat → Option Nat} {ff : Nat → Int32} {cv : Nat → Int64} {mvs tna kt : Int32} {twi : Int64} (h : LW s D ad cyJ cyZ cyN ob arr out om fz cj L g H locs N kd na fa ff cv mvs tna kt twi) : va_P D vwCl (va_pl L g) H := h.1
theorem LW.hD {s : State} {D : va_G} {ad : Nat → Nat} {cyJ cyZ cyN : ClassId} {ob arr out om fz cj : Nat} {L : List Nat} {g : Nat → va_E} {H : Heap} {locs : List Loc} {N : Nat} {kd na : Nat → Nat} {fa : Nat → Option Nat} {ff : Nat → Int32} {cv : Nat → Int64} {mvs tna kt : Int32} {twi : Int64} (h : LW s D ad cyJ cyZ cyN ob arr out om fz cj L g H locs N kd na fa ff cv mvs tna kt twi) : va_D (fun q : Nat => s.heap.size ≤ q) (va_pl L g) := h.2.1
theorem LW.hS {s : State} {D : va_G} {ad : Nat → Nat} {cyJ cyZ cyN : ClassId} {ob arr out om fz cj : Nat} {L : List Nat} {g : Nat → va_E} {H : Heap} {locs : List Loc} {N : Nat} {kd na : Nat → Nat} {fa : Nat → Option Nat} {ff : Nat → Int32} {cv : Nat → Int64} {mvs tna kt : Int32} {twi : Int64} (h : LW s D ad cyJ cyZ cyN ob arr out om fz cj L g H locs N kd na fa ff cv mvs tna kt twi) : va_S (fun q : Nat => s.heap.size ≤ q) s.heap H locs := h.2.2.1
theorem LW.hLA {s : State} {D : va_G} {ad : Nat → Nat} {cyJ cyZ cyN : ClassId} {ob arr out om fz cj : Nat} {L : List Nat} {g : Nat → va_E} {H : Heap} {locs : List Loc} {N : Nat} {kd na : Nat → Nat} {fa : Nat → Option Nat} {ff : Nat → Int32} {cv : Nat → Int64} {mvs tna kt : Int32} {twi : Int64} (h : LW s D ad cyJ cyZ cyN ob arr out om fz cj L g H locs N kd na fa ff cv mvs tna kt twi) : ∀ q ∈ L, s.heap.size ≤ q := h.2.2.2.1
theorem LW.I {s : State} {D : va_G} {ad : Nat → Nat} {cyJ cyZ cyN : ClassId} {ob arr out om fz cj : Nat} {L : List Nat} {g : Nat → va_E} {H : Heap} {locs : List Loc} {N : Nat} {kd na : Nat → Nat} {fa : Nat → Option Nat} {ff : Nat → Int32} {cv : Nat → Int64} {mvs tna kt : Int32} {twi : Int64} (h : LW s D ad cyJ cyZ cyN ob arr out om fz cj L g H locs N kd na fa ff cv mvs tna kt twi) : ST ob arr out om fz cj L N kd na fa ff cv := h.2.2.2.2.1
theorem LW.hB {s : State} {D : va_G} {ad : Nat → Nat} {cyJ cyZ cyN : ClassId} {ob arr out om fz cj : Nat} {L : List Nat} {g : Nat → va_E} {H : Heap} {locs : List Loc} {N : Nat} {kd na : Nat → Nat} {fa : Nat → Option Nat} {ff : Nat → Int32} {cv : Nat → Int64} {mvs tna kt : Int32} {twi : Int64} (h : LW s D ad cyJ cyZ cyN ob arr out om fz cj L g H locs N kd na fa ff cv mvs tna kt twi) : BS ad cyN ob arr N kd na fa mvs twi tna cv g := h.2.2.2.2.2.1
theorem LW.hM {s : State} {D : va_G} {ad : Nat → Nat} {cyJ cyZ cyN : ClassId} {ob arr out om fz cj : Nat} {L : List Nat} {g : Nat → va_E} {H : Heap} {locs : List Loc} {N : Nat} {kd na : Nat → Nat} {fa : Nat → Option Nat} {ff : Nat → Int32} {cv : Nat → Int64} {mvs tna kt : Int32} {twi : Int64} (h : LW s D ad cyJ cyZ cyN ob arr out om fz cj L g H locs N kd na fa ff cv mvs tna kt twi) : MS cyJ cyZ om fz cj N ff cv mvs twi tna kt g := h.2.2.2.2.2.2.1
theorem LW.hO {s : State} {D : va_G} {ad : Nat → Nat} {cyJ cyZ cyN : ClassId} {ob arr out om fz cj : Nat} {L : List Nat} {g : Nat → va_E} {H : Heap} {locs : List Loc} {N : Nat} {kd na : Nat → Nat} {fa : Nat → Option Nat} {ff : Nat → Int32} {cv : Nat → Int64} {mvs tna kt : Int32} {twi : Int64} (h : LW s D ad cyJ cyZ cyN ob arr out om fz cj L g H locs N kd na fa ff cv mvs tna kt twi) : ∃ fo : Nat → Int64, g out = .inl (cyJ, 1, .inr (.inl fo)) := h.2.2.2.2.2.2.2
/-- the rest of the law, from the end of a turn -/
def NX (p : Program) (l : Launch) (e : Env) (s : State) (m : MethodId) (below : List Frame) (meth : Method) (c : Code) (b : Nat) (D : va_G) (ad : Nat → Nat) (cyJ cyZ cyN : ClassId) (ob arr out om fz cj : Nat) (iv : Int32) (cells slots : Nat) (Q : State → Prop) : Prop :=
  ∀ (L : List Nat) (g : Nat → va_E) (H : Heap) (locs : List Loc) (N : Nat) (kd na : Nat → Nat) (fa : Nat → Option Nat) (ff : Nat → Int32) (cv : Nat → Int64) (mvs tna kt : Int32) (twi : Int64) (ls : Array Slot), LW s D ad cyJ cyZ cyN ob arr out om fz cj L g H locs N kd na fa ff cv mvs tna kt twi → lv_has ls 8 [(0, .ref b), (1, .ref ob), (2, .ref om), (3, .ref out), (4, .int iv)] →
    W p l e room_1 s m #[Value.ref b] below meth c H locs cells slots Q (F0 m 1208 ls [])
section LT
variable {s : State} {D : va_G} {ad : Nat → Nat} {cyJ cyZ cyN : ClassId} {ob arr out om fz cj : Nat} {L : List Nat} {g : Nat → va_E} {H : Heap} {locs : List Loc} {N : Nat} {kd na : Nat → Nat} {fa : Nat → Option Nat} {ff : Nat → Int32} {cv : Nat → Int64} {mvs tna kt : Int32} {twi : Int64}
theorem LW.ww {p : Program} {l : Launch} {m : MethodId} {meth : Method} {c : Code} {b Lx : Nat} {xs : Nat → Int32} {tys : List (ClassId × FieldType)} (C : LC p l s m meth c b Lx xs D tys ad cyJ cyZ cyN) (hP : va_P D vwCl (va_pl L g) H) (hD : va_D (fun q : Nat => s.heap.size ≤ q) (va_pl L g)) (hS : va_S (fun q : Nat => s.heap.size ≤ q) s.heap H locs) (hLA : ∀ q ∈ L, s.heap.size ≤ q) : ∀ U : State, U.heap = H → s.vm.Alike U.vm → WW D tys ad L g U :=
  fun U hU hvm => WW.mk hP C.hK hD C.hKC C.hTC hS hLA (fun _ h => h) hU hvm
theorem LW.next {cv' : Nat → Int64} {mvs' tna' kt' k' : Int32} {twi' ret : Int64} {g1 g2 : Nat → va_E} {H2 : Heap} {locs2 : List Loc} (w : LW s D ad cyJ cyZ cyN ob arr out om fz cj L g H locs N kd na fa ff cv mvs tna kt twi) (hp : HP ad cyJ cyN ob arr out om fz cj N kd na fa twi' tna' g mvs' cv' k' ret g1) (hM : MS cyJ cyZ om fz cj N ff cv' mvs' twi' tna' kt' g2) (hk : ∀ q : Nat, q ≠ om → q ≠ fz → q ≠ cj → g2 q = g1 q)
    (hP : va_P D vwCl (va_pl L g2) H2) (hD : va_D (fun q : Nat => s.heap.size ≤ q) (va_pl L g2)) (hS : va_S (fun q : Nat => s.heap.size ≤ q) s.heap H2 locs2) : LW s D ad cyJ cyZ cyN ob arr out om fz cj L g2 H2 locs2 N kd na fa ff cv' mvs' tna' kt' twi' := by
  have I2 := w.I.cells hp.2.1
  obtain ⟨fo, ho, -⟩ := hp.2.2.1
  exact ⟨hP, hD, hS, w.hLA, I2, bs_keep I2 hp.1 hk, hM, ⟨fo, (hk out w.I.out_om w.I.out_fz w.I.out_cj).trans ho⟩⟩
end LT
section LB
variable {p : Program} {l : Launch} {e : Env} {R : Room} {s : State} {m : MethodId} {args : Array Value} {below : List Frame} {meth : Method} {c : Code} {H : Heap} {locs : List Loc} {cells slots : Nat} {Q : State → Prop} {cc : ByteArray} {pc : Nat} {ls : Array Slot} {rest : List Value}
/-- x != 0, as a number -/
theorem lw_bool (hx : p.tables.exec = Jvm.exec) (hb : c.code = cc) {x : Int32} (d1 : decode cc pc = .ok (.ifCond .eq 7, 3)) (d2 : decode cc (pc + 3) = .ok (.iconst 1, 1)) (d3 : decode cc (pc + 4) = .ok (.goto 4, 3)) (d4 : decode cc (pc + 7) = .ok (.iconst 0, 1))
    (k : W p l e R s m args below meth c H locs cells slots Q (F0 m (pc + 8) ls (.int (if x = 0 then 0 else 1) :: rest))) : W p l e R s m args below meth c H locs cells slots Q (F0 m pc ls (.int x :: rest)) := by
  refine lv_if_eq (tgt := pc + 7) hx hb d1 (by omega) (fun z => ?_) (fun z => ?_)
  · rw [if_pos z] at k
    exact lv_iconst (v := 0) hx hb d4 (by decide) k
  · rw [if_neg z] at k
    refine lv_iconst (v := 1) hx hb d2 (by decide) ?_
    exact lv_goto (tgt := pc + 8) hx hb d3 (by omega) k
theorem lw_bool2 (hx : p.tables.exec = Jvm.exec) (hb : c.code = cc) {x : Int32} (d1 : decode cc pc = .ok (.ifCond .eq 7, 3)) (d2 : decode cc (pc + 3) = .ok (.lconst 1, 1)) (d3 : decode cc (pc + 4) = .ok (.goto 4, 3)) (d4 : decode cc (pc + 7) = .ok (.lconst 0, 1))
    (k : W p l e R s m args below meth c H locs cells slots Q (F0 m (pc + 8) ls (.long (if x = 0 then 0 else 1) :: rest))) : W p l e R s m args below meth c H locs cells slots Q (F0 m pc ls (.int x :: rest)) := by
  refine lv_if_eq (tgt := pc + 7) hx hb d1 (by omega) (fun z => ?_) (fun z => ?_)
  · rw [if_pos z] at k
    exact lv_lconst (v := 0) hx hb d4 (by decide) k
  · rw [if_neg z] at k
    refine lv_lconst (v := 1) hx hb d2 (by decide) ?_
    exact lv_goto (tgt := pc + 8) hx hb d3 (by omega) k
end LB
def lJ (a b : Int32) : Int64 := (a.toInt64 <<< ((32 : Int32).toInt64 &&& 63)) ||| (b.toInt64 &&& 4294967295)
