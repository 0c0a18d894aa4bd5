/-! objects that are made: constructors -/
section AL
variable {p : Program} {l : Launch} {e : Env} {R : Room} {s : State} {m : MethodId} {args : Array Value} {below : List Frame} {meth : Method} {c : Code} {H : Heap} {locs : List Loc} {cells slots : Nat} {Q : State → Prop}
variable {cc : ByteArray} {pc : Nat} {ls : Array Slot} {rest st0 : List Value} {A : Nat → Prop} {ad : Nat → Nat} {D : va_G} {tys : List (ClassId × FieldType)} {L : List Nat} {g : Nat → va_E} {a : Nat}
variable {y : MethodName} {bytes : ByteArray} {maxL nL n index : Nat} {ws Ts : List Cond} {rm : Room} {own C : String} {As : List Value}
/-- putfield of a final field in a constructor -/
theorem pg_putF (hx : p.tables.exec = Jvm.exec) (hb : c.code = cc) {T : u_T} {N ci : Nat} (hts : ∀ w ∈ Ts, w.before args s = true) (hin : ∀ w ∈ u_ws C T N, w ∈ Ts) (ty0 : Nat → FieldType) (hty : ∀ k, k < N → parseFieldDescriptor (T k).2.2.1 = some (ty0 k)) (hnm : ∀ a, a < N → ∀ b, b < N → a ≠ b → (T a).2.1 ≠ (T b).2.1) (hown : s.vm.findClass own = some m.cls) (hK : va_K D vwCl tys s) (hP : va_P D vwCl (va_pl L g) H) (hD : va_D A (va_pl L g)) (hS : va_S A s.heap H locs)
    (hL : a ∈ L) {fs : List Value} (hg : g a = .inr (ci, fs)) (hc : vwCl[ci]? = some (C, T, N)) (k : Nat) (hk : k < N) (hlink : (Cond.fieldLink own index (T k).1 (T k).2.1 (T k).2.2.1).before args s = true) (hfin : (T k).2.2.2 = true) (hin2 : meth.name = "<init>") (hdecl : (T k).1 = own) {ty : FieldType} {v : Value} (hd : parseFieldDescriptor (T k).2.2.1 = some ty) (hn : narrow ty v = v) (hfit : fits ty v = true) (hl : k < fs.length) (hdg : decode cc pc = .ok (.putfield index, 3))
    (kk : ∀ (H1 : Heap) (locs1 : List Loc), va_P D vwCl (va_pl L (va_up g a (.inr (ci, fs.set k v)))) H1 → va_D A (va_pl L (va_up g a (.inr (ci, fs.set k v)))) → va_S A s.heap H1 locs1 → W p l e R s m args below meth c H1 locs1 cells slots Q (F0 m (pc + 3) ls rest)) : W p l e R s m args below meth c H locs cells slots Q (F0 m pc ls (v :: .ref a :: rest)) := by
  obtain ⟨j, hj⟩ := pg_at hL hg
  refine va_putF hx hb hts hin ty0 hty hnm hown hK hP hD hS j hj hc k hk hlink (fun _ h => h) hfin hin2 hdecl hd hn hfit hl hdg (fun H1 locs1 h1 h2 h3 => ?_)
  rw [pg_set hD hL hg hj] at h1 h2
  exact kk H1 locs1 h1 h2 h3
theorem pg_fresh {q : Nat} {x : va_E} (hD : va_D A (va_pl L g ++ [(q, x)])) : q ∉ L ∧ A q := by
  have hq : (va_pl L g ++ [(q, x)])[(va_pl L g).length]? = some (q, x) := by simp
  refine ⟨fun h => ?_, hD.2 _ _ hq⟩
  obtain ⟨k, hk⟩ := va_pl_get (X := []) (f := g) h
  have hk1 : (va_pl L g)[k]? = some (q, g q) := hk
  have hlt := (List.getElem?_eq_some_iff.mp hk1).1
  have hk2 : (va_pl L g ++ [(q, x)])[k]? = some (q, g q) := by rw [List.getElem?_append_left hlt]; exact hk1
  have := hD.1 k _ _ _ hk2 hq rfl
  omega
theorem pg_new {T : u_T} {N ci : Nat} (hx : p.tables.exec = Jvm.exec) (hb : c.code = cc) (hts : ∀ w ∈ Ts, w.before args s = true) (hin : ∀ w ∈ u_ws C T N, w ∈ Ts) (ty : Nat → FieldType) (hty : ∀ k, k < N → parseFieldDescriptor (T k).2.2.1 = some (ty k)) (hown : s.vm.findClass own = some m.cls) (hcl : (Cond.classLink own index C).before args s = true) (hinst : (Cond.instantiable C N).before args s = true) (hini : (Cond.initialized C).before args s = true)
    (hK : va_K D vwCl tys s) (hP : va_P D vwCl (va_pl L g) H) (hD : va_D A (va_pl L g)) (hS : va_S A s.heap H locs) (hA : ∀ q, s.heap.size ≤ q → A q) (hc : vwCl[ci]? = some (C, T, N)) {fs : List Value} (hfs : ∀ j, j < N → defaultValue (ty j) = vp_V fs j) (hcells : cells + 1 ≤ R.cells) (hslots : slots + N ≤ R.slots) (hdg : decode cc pc = .ok (.new index, 3))
    (kk : ∀ (q : Nat) (H1 : Heap), q ∉ L → A q → va_P D vwCl (va_pl (L ++ [q]) (va_up g q (.inr (ci, fs)))) H1 → va_D A (va_pl (L ++ [q]) (va_up g q (.inr (ci, fs)))) → va_S A s.heap H1 locs → W p l e R s m args below meth c H1 locs (cells + 1) (slots + N) Q (F0 m (pc + 3) ls (.ref q :: rest))) : W p l e R s m args below meth c H locs cells slots Q (F0 m pc ls rest) := by
  refine va_new hx hb hts hin ty hty hown hcl hinst hini hK hP hD hS hA hc hfs hcells hslots hdg (fun q H1 h1 h2 h3 => ?_)
  obtain ⟨hq, hAq⟩ := pg_fresh h2
  rw [va_pl_push hq] at h1 h2
  exact kk q H1 hq hAq h1 h2 h3
theorem pg_newa (hx : p.tables.exec = Jvm.exec) (hb : c.code = cc) {atype : ArrayType} (harr : (Cond.arrayClass (newarray.typeOf atype)).before args s = true) {ty : FieldType} (hty : newarray.typeOf atype = ty) (hK : va_K D vwCl tys s) (hP : va_P D vwCl (va_pl L g) H) (hD : va_D A (va_pl L g)) (hS : va_S A s.heap H locs) (hA : ∀ q, s.heap.size ≤ q → A q)
    {n : Int32} {N' : Nat} {a0 : vp_A} (ha : ∀ cA : ClassId, vp_cell cA a0 = arrV cA N' (fun _ => defaultValue ty)) (hn : ¬ n < 0) (hN : n.toNatClampNeg = N') (hbytes : N' * componentBytes ty ≤ 536870912) (hcells : cells + 1 ≤ R.cells) (hslots : slots + N' ≤ R.slots) (hdg : decode cc pc = .ok (.newarray atype, 2))
    (kk : ∀ (q : Nat) (cA : ClassId) (H1 : Heap), q ∉ L → A q → va_K D vwCl (tys ++ [(cA, ty)]) s → va_P D vwCl (va_pl (L ++ [q]) (va_up g q (.inl (cA, a0)))) H1 → va_D A (va_pl (L ++ [q]) (va_up g q (.inl (cA, a0)))) → va_S A s.heap H1 locs → W p l e R s m args below meth c H1 locs (cells + 1) (slots + N') Q (F0 m (pc + 2) ls (.ref q :: rest))) : W p l e R s m args below meth c H locs cells slots Q (F0 m pc ls (.int n :: rest)) := by
  refine va_newa hx hb harr hty hK hP hD hS hA ha hn hN hbytes hcells hslots hdg (fun q cA H1 h0 h1 h2 h3 => ?_)
  obtain ⟨hq, hAq⟩ := pg_fresh h2
  rw [va_pl_push hq] at h1 h2
  exact kk q cA H1 hq hAq h0 h1 h2 h3
theorem pg_newq (hx : p.tables.exec = Jvm.exec) (hb : c.code = cc) (hown : s.vm.findClass own = some m.cls) (hclink : (Cond.classLink own index C).before args s = true) (hover : va_AO C s) (hK : va_K D vwCl tys s) (hP : va_P D vwCl (va_pl L g) H) (hD : va_D A (va_pl L g)) (hS : va_S A s.heap H locs) (hA : ∀ q, s.heap.size ≤ q → A q)
    {n : Int32} {N' : Nat} (hn : ¬ n < 0) (hN : n.toNatClampNeg = N') (hbytes : N' * 4 ≤ 536870912) (hcells : cells + 1 ≤ R.cells) (hslots : slots + N' ≤ R.slots) (hdg : decode cc pc = .ok (.anewarray index, 3))
    (kk : ∀ (q : Nat) (cA : ClassId) (H1 : Heap), q ∉ L → A q → va_K D vwCl (tys ++ [(cA, .object C)]) s → va_P D vwCl (va_pl (L ++ [q]) (va_up g q (.inl (cA, N', .inr (.inr (.inr (.inr (fun _ => none)))))))) H1 → va_D A (va_pl (L ++ [q]) (va_up g q (.inl (cA, N', .inr (.inr (.inr (.inr (fun _ => none)))))))) → va_S A s.heap H1 locs → W p l e R s m args below meth c H1 locs (cells + 1) (slots + N') Q (F0 m (pc + 3) ls (.ref q :: rest))) : W p l e R s m args below meth c H locs cells slots Q (F0 m pc ls (.int n :: rest)) := by
  refine va_newq hx hb hown hclink hover hK hP hD hS hA hn hN hbytes hcells hslots hdg (fun q cA H1 h0 h1 h2 h3 => ?_)
  obtain ⟨hq, hAq⟩ := pg_fresh h2
  rw [va_pl_push hq] at h1 h2
  exact kk q cA H1 hq hAq h0 h1 h2 h3
theorem pg_aast (hx : p.tables.exec = Jvm.exec) (hb : c.code = cc) (hK : va_K D vwCl tys s) (hP : va_P D vwCl (va_pl L g) H) (hD : va_D A (va_pl L g)) (hS : va_S A s.heap H locs) (t0 ci : Nat) {cA : ClassId} {r : vw_C} {n v : Nat} {vs : List Value} {f : Nat → Option Nat} (hL : a ∈ L) (hg : g a = .inl (cA, n, .inr (.inr (.inr (.inr f))))) (ht : tys[t0]? = some (cA, .object r.1)) (hLv : v ∈ L) (hgv : g v = .inr (ci, vs)) (hc : vwCl[ci]? = some r) {i : Int32} (hin : vp_in i n) (hdg : decode cc pc = .ok (.aastore, 1))
    (kk : ∀ (H1 : Heap) (locs1 : List Loc), va_P D vwCl (va_pl L (va_up g a (.inl (cA, n, .inr (.inr (.inr (.inr (va_up f i.toNatClampNeg (some v))))))))) H1 → va_D A (va_pl L (va_up g a (.inl (cA, n, .inr (.inr (.inr (.inr (va_up f i.toNatClampNeg (some v))))))))) → va_S A s.heap H1 locs1 → W p l e R s m args below meth c H1 locs1 cells slots Q (F0 m (pc + 1) ls rest)) : W p l e R s m args below meth c H locs cells slots Q (F0 m pc ls (.ref v :: .int i :: .ref a :: rest)) := by
  obtain ⟨j, hj⟩ := pg_at hL hg
  obtain ⟨k, hk⟩ := pg_at hLv hgv
  refine va_astq hx hb hK hP hD hS j t0 k ci hj ht hk hc hin hdg (fun H1 locs1 h1 h2 h3 => ?_)
  rw [pg_set hD hL hg hj] at h1 h2
  exact kk H1 locs1 h1 h2 h3
/-- a constructor is called that changes the world and adds nothing to it -/
theorem mc_I {b mc ms : Nat} {P : (Nat → va_E) → Prop} (S : CallFix p m c cc nL s args Ts own) (hM : Met l y ws rm (PW D tys ad L g (.ref b :: As)) (QE D tys ad L none P) mc ms (fun q => q ∈ L)) (cw : CallB R s args own index y bytes maxL none ws rm mc ms n ∧ y.name = "<init>" ∧ (Cond.instanceMethod y).before args s = true)
    (hWW : ∀ U : State, U.heap = H → s.vm.Alike U.vm → WW D tys ad L g U) (hXN : XN s) (hS : va_S A s.heap H locs) (hLA : ∀ q ∈ L, A q) (hn : As.length = n) (hl : ls.size = nL) (hst : st0 = As.reverse ++ .ref b :: rest) (hW : 2 * (F0 m pc ls rest).monitorRoom + (rest.map fun v => v.category).sum ≤ 8)
    (hdg : decode cc pc = .ok (.invokespecial index, 3)) (hf : cells + mc ≤ R.cells ∧ slots + ms ≤ R.slots)
    (kk : ∀ (g1 : Nat → va_E) (H1 : Heap) (locs1 : List Loc), P g1 → va_P D vwCl (va_pl L g1) H1 → va_D A (va_pl L g1) → va_S A s.heap H1 locs1 → W p l e R s m args below meth c H1 locs1 (cells + mc) (slots + ms) Q (F0 m (pc + 3) ls rest)) : W p l e R s m args below meth c H locs cells slots Q (F0 m pc ls st0) := by
  subst hst
  intro T hT X
  obtain ⟨v, st₀, t, T', L', h0, X', hL', e1, ⟨hv, ⟨g1, hw, hp⟩, hF⟩, st⟩ := W.runI (g := F0 m pc ls (As.reverse ++ .ref b :: rest)) S hM cw ⟨PW.blind D tys ad L g _, fun U hU hW => ⟨rfl, hWW U hU hW.alike, hXN.warm hW⟩⟩ rfl hn hl rfl hW hdg hf T hT X
  cases hv
  obtain ⟨k1, k2, k3⟩ := vx_keep (free := fun q => q ∈ L) h0 e1 hS (fun q _ h => hLA q h) hLA hL' hF
  obtain ⟨t2, a1, b1⟩ := kk g1 T'.heap (locs ++ L') hp (by rw [e1]; exact hw.1) (we_D hLA hw.2.2.1) k3 T' rfl X'
  exact ⟨t2, st t2 a1, b1⟩
end AL
