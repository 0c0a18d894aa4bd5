/-! calls whose exceptions this method may catch -/
section HC
variable {p : Program} {l : Launch} {e : Env} {R : Room} {s : State} {m : MethodId} {args : Array Value} {below : List Frame} {meth : Method} {c : Code} {H : Heap} {locs : List Loc} {cells slots : Nat} {Q : State → Prop}
variable {cc : ByteArray} {pc : Nat} {ls : Array Slot} {rest st0 : List Value} {A : Nat → Prop} {ad : Nat → Nat} {D : va_G} {tys : List (ClassId × FieldType)} {L : List Nat} {g : Nat → va_E}
variable {y : MethodName} {bytes : ByteArray} {maxL nL n index : Nat} {ret : Option FieldType} {ws Ts : List Cond} {rm : Room} {own C : String} {As : List Value}
theorem hc_V {b mc ms code : Nat} {r : Option Value} {P : (Nat → va_E) → Prop} (S : CallFix p m c cc nL s args Ts own) (hM : vx_Met l y ws rm (PW D tys ad L g (.ref b :: As)) (QEc D tys ad L code r P) (XW D tys ad L g code) mc ms (fun q => q ∈ L)) (cw : CallW R s args own C index y bytes maxL ret ws rm mc ms n)
    (hrec : ∃ cell : Cell, H[b]? = some cell ∧ cell.vm.isStatics = false ∧ s.vm.findClass C = some cell.cls) (hWW : ∀ U : State, U.heap = H → s.vm.Alike U.vm → WW D tys ad L g U) (hXN : XN s) (hS : va_S A s.heap H locs) (hLA : ∀ q ∈ L, A q) (hn : As.length = n) (hl : ls.size = nL) (hst : st0 = As.reverse ++ .ref b :: rest) (hW : 2 * (F0 m pc ls rest).monitorRoom + (rest.map fun v => v.category).sum ≤ 8)
    (hdg : decode cc pc = .ok (.invokevirtual index, 3)) (hf : cells + mc ≤ R.cells ∧ slots + ms ≤ R.slots)
    (kx : ∀ (E : String) (ce : Cell) (q9 : Addr) (H1 : Heap) (locs1 : List Loc), XE code E → va_P D vwCl (va_pl L g) H1 → va_D A (va_pl L g) → va_S A s.heap H1 locs1 → H1[q9]? = some ce → ce.vm = .none → s.vm.findClass E = some ce.cls → vx_W p l e R s m args below meth c H1 locs1 (cells + mc) (slots + ms) Q (F0 m pc ls rest) q9)
    (kk : code = 0 → ∀ (g1 : Nat → va_E) (H1 : Heap) (locs1 : List Loc), P g1 → va_P D vwCl (va_pl L g1) H1 → va_D A (va_pl L g1) → va_S A s.heap H1 locs1 → W p l e R s m args below meth c H1 locs1 (cells + mc) (slots + ms) Q (F0 m (pc + 3) ls (r.toList ++ rest))) : W p l e R s m args below meth c H locs cells slots Q (F0 m pc ls st0) := by
  subst hst
  intro T hT X
  rcases vx_runV (g := F0 m pc ls (As.reverse ++ .ref b :: rest)) S hM cw ⟨PW.blind D tys ad L g _, hrec, fun U hU hW => ⟨rfl, hWW U hU hW.alike, hXN.warm hW⟩⟩ rfl hn hl rfl hW hdg hf T hT X with ⟨v, st₀, t, T', L', h0, X', hL', e1, e2, ⟨hc0, hv, ⟨g1, hw, hp⟩, hF⟩, st⟩ | ⟨q, st₀, t, T', L', E, ce, h0, X', hL', e1, e2, ⟨hxe, hw, hF⟩, hce, hcv, hcl, st⟩
  · cases hv
    obtain ⟨k1, k2, k3⟩ := vx_keep (free := fun q => q ∈ L) h0 e1 hS (fun q _ h => hLA q h) hLA hL' hF
    obtain ⟨t2, a1, b1⟩ := kk hc0 g1 T'.heap (locs ++ L') hp (by rw [e1]; exact hw.1) (we_D hLA hw.2.2.1) k3 T' rfl X'
    exact ⟨t2, st t2 a1, b1⟩
  · obtain ⟨k1, k2, k3⟩ := vx_keep (free := fun q => q ∈ L) (A1 := fun _ => False) h0 e1 hS (fun q _ h => h.elim) hLA hL' hF
    obtain ⟨t2, a1, b1⟩ := kx E ce q T'.heap (locs ++ L') hxe (by rw [e1]; exact hw.1) (we_D hLA hw.2.2.1) k3 (by rw [e1]; exact hce) hcv hcl T' rfl X'
    exact ⟨t2, st.trans a1, b1⟩
theorem hr_V {b mc ms code : Nat} {r : Option Value} (S : CallFix p m c cc nL s args Ts own) (hM : vx_Met l y ws rm (PW D tys ad L g (.ref b :: As)) (QR code r) (XW D tys ad L g code) mc ms (fun _ => False)) (cw : CallW R s args own C index y bytes maxL ret ws rm mc ms n)
    (hrec : ∃ cell : Cell, H[b]? = some cell ∧ cell.vm.isStatics = false ∧ s.vm.findClass C = some cell.cls) (hWW : ∀ U : State, U.heap = H → s.vm.Alike U.vm → WW D tys ad L g U) (hXN : XN s) (hS : va_S A s.heap H locs) (hLA : ∀ q ∈ L, A q) (hn : As.length = n) (hl : ls.size = nL) (hst : st0 = As.reverse ++ .ref b :: rest) (hW : 2 * (F0 m pc ls rest).monitorRoom + (rest.map fun v => v.category).sum ≤ 8)
    (hdg : decode cc pc = .ok (.invokevirtual index, 3)) (hf : cells + mc ≤ R.cells ∧ slots + ms ≤ R.slots)
    (kx : ∀ (E : String) (ce : Cell) (q9 : Addr) (H1 : Heap) (locs1 : List Loc), XE code E → va_P D vwCl (va_pl L g) H1 → va_D A (va_pl L g) → va_S A s.heap H1 locs1 → H1[q9]? = some ce → ce.vm = .none → s.vm.findClass E = some ce.cls → vx_W p l e R s m args below meth c H1 locs1 (cells + mc) (slots + ms) Q (F0 m pc ls rest) q9)
    (kk : code = 0 → W p l e R s m args below meth c H locs (cells + mc) (slots + ms) Q (F0 m (pc + 3) ls (r.toList ++ rest))) : W p l e R s m args below meth c H locs cells slots Q (F0 m pc ls st0) := by
  subst hst
  intro T hT X
  rcases vx_runV (g := F0 m pc ls (As.reverse ++ .ref b :: rest)) S hM cw ⟨PW.blind D tys ad L g _, hrec, fun U hU hW => ⟨rfl, hWW U hU hW.alike, hXN.warm hW⟩⟩ rfl hn hl rfl hW hdg hf T hT X with ⟨v, st₀, t, T', L', h0, X', hL', e1, e2, ⟨hc0, hv, hh⟩, st⟩ | ⟨q, st₀, t, T', L', E, ce, h0, X', hL', e1, e2, ⟨hxe, hw, hF⟩, hce, hcv, hcl, st⟩
  · cases hv
    obtain ⟨t2, a1, b1⟩ := kk hc0 T' (by rw [e1, hh, h0]) (Stand.forget X' (fun z hz => (hL' z hz).elim))
    exact ⟨t2, st t2 a1, b1⟩
  · obtain ⟨k1, k2, k3⟩ := vx_keep (free := fun _ => False) (A1 := fun _ => False) h0 e1 hS (fun q _ h => h.elim) (fun _ h => h.elim) hL' hF
    obtain ⟨t2, a1, b1⟩ := kx E ce q T'.heap (locs ++ L') hxe (by rw [e1]; exact hw.1) (we_D hLA hw.2.2.1) k3 (by rw [e1]; exact hce) hcv hcl T' rfl X'
    exact ⟨t2, st.trans a1, b1⟩
/-- a static call of a method that changes the world, with a table of its own -/
theorem hs_W {mc ms : Nat} {hh : List (Nat × Nat × Nat × Nat)} {r : Option Value} {P : (Nat → va_E) → Prop} (S : CallFix p m c cc nL s args Ts own) (hM : Met l y ws rm (PW D tys ad L g As) (QE D tys ad L r P) mc ms (fun q => q ∈ L)) (cw : vx_CSW R s args own index y bytes maxL ret hh ws rm mc ms n)
    (hWW : ∀ U : State, U.heap = H → s.vm.Alike U.vm → WW D tys ad L g U) (hXN : XN s) (hS : va_S A s.heap H locs) (hLA : ∀ q ∈ L, A q) (hn : As.length = n) (hl : ls.size = nL) (hst : st0 = As.reverse ++ rest) (hW : 2 * (F0 m pc ls rest).monitorRoom + (rest.map fun v => v.category).sum ≤ 8)
    (hdg : decode cc pc = .ok (.invokestatic index, 3)) (hf : cells + mc ≤ R.cells ∧ slots + ms ≤ R.slots)
    (kk : ∀ (g1 : Nat → va_E) (H1 : Heap) (locs1 : List Loc), P g1 → va_P D vwCl (va_pl L g1) H1 → va_D A (va_pl L g1) → va_S A s.heap H1 locs1 → W p l e R s m args below meth c H1 locs1 (cells + mc) (slots + ms) Q (F0 m (pc + 3) ls (r.toList ++ rest))) : W p l e R s m args below meth c H locs cells slots Q (F0 m pc ls st0) := by
  subst hst
  intro T hT X
  obtain ⟨v, st₀, t, T', L', h0, X', hL', e1, e2, ⟨hv, ⟨g1, hw, hp⟩, hF⟩, st⟩ := vx_runSW (g := F0 m pc ls (As.reverse ++ rest)) S hM cw ⟨PW.blind D tys ad L g _, fun U hU hW => ⟨rfl, hWW U hU hW.alike, hXN.warm hW⟩⟩ rfl hn hl rfl hW hdg hf T hT X
  cases hv
  obtain ⟨k1, k2, k3⟩ := vx_keep (free := fun q => q ∈ L) h0 e1 hS (fun q _ h => hLA q h) hLA hL' hF
  obtain ⟨t2, a1, b1⟩ := kk g1 T'.heap (locs ++ L') hp (by rw [e1]; exact hw.1) (we_D hLA hw.2.2.1) k3 T' rfl X'
  exact ⟨t2, st t2 a1, b1⟩
end HC
