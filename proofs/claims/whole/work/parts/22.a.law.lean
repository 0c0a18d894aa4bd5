/-! the law: the two sides side by side -/
abbrev ST (ob arr out om fz cj : Nat) (L : List Nat) (N : Nat) (kd na : Nat → Nat) (fa : Nat → Option Nat) (ff : Nat → Int32) (cv : Nat → Int64) : Prop :=
  (N ≤ 8) ∧
  (ob ∈ L) ∧
  (arr ∈ L) ∧
  (out ∈ L) ∧
  (om ∈ L) ∧
  (fz ∈ L) ∧
  (cj ∈ L) ∧
  (ob ≠ arr) ∧
  (ob ≠ out) ∧
  (ob ≠ om) ∧
  (ob ≠ fz) ∧
  (ob ≠ cj) ∧
  (arr ≠ out) ∧
  (arr ≠ om) ∧
  (arr ≠ fz) ∧
  (arr ≠ cj) ∧
  (out ≠ om) ∧
  (out ≠ fz) ∧
  (out ≠ cj) ∧
  (om ≠ fz) ∧
  (om ≠ cj) ∧
  (fz ≠ cj) ∧
  (∀ k, k < N → na k ∈ L) ∧
  (∀ k, k < N → na k ≠ ob ∧ na k ≠ arr ∧ na k ≠ out ∧ na k ≠ om ∧ na k ≠ fz ∧ na k ≠ cj) ∧
  (∀ k j, k < N → j < N → na k = na j → k = j) ∧
  (∀ k, k < N → fa k = some (na k)) ∧
  (∀ k, N ≤ k → fa k = none) ∧
  (∀ k, k < 8 → kd k < 2 ∧ ff k = fI (kd k) ∧ CK (kd k) cv k)
theorem ST.hN {ob arr out om fz cj : Nat} {L : List Nat} {N : Nat} {kd na : Nat → Nat} {fa : Nat → Option Nat} {ff : Nat → Int32} {cv : Nat → Int64} (h : ST ob arr out om fz cj L N kd na fa ff cv) : N ≤ 8 := h.1
theorem ST.L_ob {ob arr out om fz cj : Nat} {L : List Nat} {N : Nat} {kd na : Nat → Nat} {fa : Nat → Option Nat} {ff : Nat → Int32} {cv : Nat → Int64} (h : ST ob arr out om fz cj L N kd na fa ff cv) : ob ∈ L := h.2.1
theorem ST.L_arr {ob arr out om fz cj : Nat} {L : List Nat} {N : Nat} {kd na : Nat → Nat} {fa : Nat → Option Nat} {ff : Nat → Int32} {cv : Nat → Int64} (h : ST ob arr out om fz cj L N kd na fa ff cv) : arr ∈ L := h.2.2.1
theorem ST.L_out {ob arr out om fz cj : Nat} {L : List Nat} {N : Nat} {kd na : Nat → Nat} {fa : Nat → Option Nat} {ff : Nat → Int32} {cv : Nat → Int64} (h : ST ob arr out om fz cj L N kd na fa ff cv) : out ∈ L := h.2.2.2.1
theorem ST.L_om {ob arr out om fz cj : Nat} {L : List Nat} {N : Nat} {kd na : Nat → Nat} {fa : Nat → Option Nat} {ff : Nat → Int32} {cv : Nat → Int64} (h : ST ob arr out om fz cj L N kd na fa ff cv) : om ∈ L := h.2.2.2.2.1
theorem ST.L_fz {ob arr out om fz cj : Nat} {L : List Nat} {N : Nat} {kd na : Nat → Nat} {fa : Nat → Option Nat} {ff : Nat → Int32} {cv : Nat → Int64} (h : ST ob arr out om fz cj L N kd na fa ff cv) : fz ∈ L := h.2.2.2.2.2.1
theorem ST.L_cj {ob arr out om fz cj : Nat} {L : List Nat} {N : Nat} {kd na : Nat → Nat} {fa : Nat → Option Nat} {ff : Nat → Int32} {cv : Nat → Int64} (h : ST ob arr out om fz cj L N kd na fa ff cv) : cj ∈ L := h.2.2.2.2.2.2.1
theorem ST.ob_arr {ob arr out om fz cj : Nat} {L : List Nat} {N : Nat} {kd na : Nat → Nat} {fa : Nat → Option Nat} {ff : Nat → Int32} {cv : Nat → Int64} (h : ST ob arr out om fz cj L N kd na fa ff cv) : ob ≠ arr := h.2.2.2.2.2.2.2.1
theorem ST.ob_out {ob arr out om fz cj : Nat} {L : List Nat} {N : Nat} {kd na : Nat → Nat} {fa : Nat → Option Nat} {ff : Nat → Int32} {cv : Nat → Int64} (h : ST ob arr out om fz cj L N kd na fa ff cv) : ob ≠ out := h.2.2.2.2.2.2.2.2.1
theorem ST.ob_om {ob arr out om fz cj : Nat} {L : List Nat} {N : Nat} {kd na : Nat → Nat} {fa : Nat → Option Nat} {ff : Nat → Int32} {cv : Nat → Int64} (h : ST ob arr out om fz cj L N kd na fa ff cv) : ob ≠ om := h.2.2.2.2.2.2.2.2.2.1
theorem ST.ob_fz {ob arr out om fz cj : Nat} {L : List Nat} {N : Nat} {kd na : Nat → Nat} {fa : Nat → Option Nat} {ff : Nat → Int32} {cv : Nat → Int64} (h : ST ob arr out om fz cj L N kd na fa ff cv) : ob ≠ fz := h.2.2.2.2.2.2.2.2.2.2.1
theorem ST.ob_cj {ob arr out om fz cj : Nat} {L : List Nat} {N : Nat} {kd na : Nat → Nat} {fa : Nat → Option Nat} {ff : Nat → Int32} {cv : Nat → Int64} (h : ST ob arr out om fz cj L N kd na fa ff cv) : ob ≠ cj := h.2.2.2.2.2.2.2.2.2.2.2.1
theorem ST.arr_out {ob arr out om fz cj : Nat} {L : List Nat} {N : Nat} {kd na : Nat → Nat} {fa : Nat → Option Nat} {ff : Nat → Int32} {cv : Nat → Int64} (h : ST ob arr out om fz cj L N kd na fa ff cv) : arr ≠ out := h.2.2.2.2.2.2.2.2.2.2.2.2.1
theorem ST.arr_om {ob arr out om fz cj : Nat} {L : List Nat} {N : Nat} {kd na : Nat → Nat} {fa : Nat → Option Nat} {ff : Nat → Int32} {cv : Nat → Int64} (h : ST ob arr out om fz cj L N kd na fa ff cv) : arr ≠ om := h.2.2.2.2.2.2.2.2.2.2.2.2.2.1
theorem ST.arr_fz {ob arr out om fz cj : Nat} {L : List Nat} {N : Nat} {kd na : Nat → Nat} {fa : Nat → Option Nat} {ff : Nat → Int32} {cv : Nat → Int64} (h : ST ob arr out om fz cj L N kd na fa ff cv) : arr ≠ fz := h.2.2.2.2.2.2.2.2.2.2.2.2.2.2.1
theorem ST.arr_cj {ob arr out om fz cj : Nat} {L : List Nat} {N : Nat} {kd na : Nat → Nat} {fa : Nat → Option Nat} {ff : Nat → Int32} {cv : Nat → Int64} (h : ST ob arr out om fz cj L N kd na fa ff cv) : arr ≠ cj := h.2.2.2.2.2.2.2.2.2.2.2.2.2.2.2.1
theorem ST.out_om {ob arr out om fz cj : Nat} {L : List Nat} {N : Nat} {kd na : Nat → Nat} {fa : Nat → Option Nat} {ff : Nat → Int32} {cv : Nat → Int64} (h : ST ob arr out om fz cj L N kd na fa ff cv) : out ≠ om := h.2.2.2.2.2.2.2.2.2.2.2.2.2.2.2.2.1
theorem ST.out_fz {ob arr out om fz cj : Nat} {L : List Nat} {N : Nat} {kd na : Nat → Nat} {fa : Nat → Option Nat} {ff : Nat → Int32} {cv : Nat → Int64} (h : ST ob arr out om fz cj L N kd na fa ff cv) : out ≠ fz := h.2.2.2.2.2.2.2.2.2.2.2.2.2.2.2.2.2.1
theorem ST.out_cj {ob arr out om fz cj : Nat} {L : List Nat} {N : Nat} {kd na : Nat → Nat} {fa : Nat → Option Nat} {ff : Nat → Int32} {cv : Nat → Int64} (h : ST ob arr out om fz cj L N kd na fa ff cv) : out ≠ cj := h.2.2.2.2.2.2.2.2.2.2.2.2.2.2.2.2.2.2.1
theorem ST.om_fz {ob arr out om fz cj : Nat} {L : List Nat} {N : Nat} {kd na : Nat → Nat} {fa : Nat → Option Nat} {ff : Nat → Int32} {cv : Nat → Int64} (h : ST ob arr out om fz cj L N kd na fa ff cv) : om ≠ fz := h.2.2.2.2.2.2.2.2.2.2.2.2.2.2.2.2.2.2.2.1
theorem ST.om_cj {ob arr out om fz cj : Nat} {L : List Nat} {N : Nat} {kd na : Nat → Nat} {fa : Nat → Option Nat} {ff : Nat → Int32} {cv : Nat → Int64} (h : ST ob arr out om fz cj L N kd na fa ff cv) : om ≠ cj := h.2.2.2.2.2.2.2.2.2.2.2.2.2.2.2.2.2.2.2.2.1
theorem ST.fz_cj {ob arr out om fz cj : Nat} {L : List Nat} {N : Nat} {kd na : Nat → Nat} {fa : Nat → Option Nat} {ff : Nat → Int32} {cv : Nat → Int64} (h : ST ob arr out om fz cj L N kd na fa ff cv) : fz ≠ cj := h.2.2.2.2.2.2.2.2.2.2.2.2.2.2.2.2.2.2.2.2.2.1
theorem ST.L_na {ob arr out om fz cj : Nat} {L : List Nat} {N : Nat} {kd na : Nat → Nat} {fa : Nat → Option Nat} {ff : Nat → Int32} {cv : Nat → Int64} (h : ST ob arr out om fz cj L N kd na fa ff cv) : ∀ k, k < N → na k ∈ L := h.2.2.2.2.2.2.2.2.2.2.2.2.2.2.2.2.2.2.2.2.2.2.1
theorem ST.na_ne {ob arr out om fz cj : Nat} {L : List Nat} {N : Nat} {kd na : Nat → Nat} {fa : Nat → Option Nat} {ff : Nat → Int32} {cv : Nat → Int64} (h : ST ob arr out om fz cj L N kd na fa ff cv) : ∀ k, k < N → na k ≠ ob ∧ na k ≠ arr ∧ na k ≠ out ∧ na k ≠ om ∧ na k ≠ fz ∧ na k ≠ cj := h.2.2.2.2.2.2.2.2.2.2.2.2.2.2.2.2.2.2.2.2.2.2.2.1
theorem ST.na_inj {ob arr out om fz cj : Nat} {L : List Nat} {N : Nat} {kd na : Nat → Nat} {fa : Nat → Option Nat} {ff : Nat → Int32} {cv : Nat → Int64} (h : ST ob arr out om fz cj L N kd na fa ff cv) : ∀ k j, k < N → j < N → na k = na j → k = j := h.2.2.2.2.2.2.2.2.2.2.2.2.2.2.2.2.2.2.2.2.2.2.2.2.1
theorem ST.fa_in {ob arr out om fz cj : Nat} {L : List Nat} {N : Nat} {kd na : Nat → Nat} {fa : Nat → Option Nat} {ff : Nat → Int32} {cv : Nat → Int64} (h : ST ob arr out om fz cj L N kd na fa ff cv) : ∀ k, k < N → fa k = some (na k) := h.2.2.2.2.2.2.2.2.2.2.2.2.2.2.2.2.2.2.2.2.2.2.2.2.2.1
theorem ST.fa_out {ob arr out om fz cj : Nat} {L : List Nat} {N : Nat} {kd na : Nat → Nat} {fa : Nat → Option Nat} {ff : Nat → Int32} {cv : Nat → Int64} (h : ST ob arr out om fz cj L N kd na fa ff cv) : ∀ k, N ≤ k → fa k = none := h.2.2.2.2.2.2.2.2.2.2.2.2.2.2.2.2.2.2.2.2.2.2.2.2.2.2.1
theorem ST.kd_ok {ob arr out om fz cj : Nat} {L : List Nat} {N : Nat} {kd na : Nat → Nat} {fa : Nat → Option Nat} {ff : Nat → Int32} {cv : Nat → Int64} (h : ST ob arr out om fz cj L N kd na fa ff cv) : ∀ k, k < 8 → kd k < 2 ∧ ff k = fI (kd k) ∧ CK (kd k) cv k := h.2.2.2.2.2.2.2.2.2.2.2.2.2.2.2.2.2.2.2.2.2.2.2.2.2.2.2
theorem ST.mk0 {ob arr out om fz cj : Nat} {L : List Nat} {N : Nat} {kd na : Nat → Nat} {fa : Nat → Option Nat} {ff : Nat → Int32} {cv : Nat → Int64} (hN : N ≤ 8) (L_ob : ob ∈ L) (L_arr : arr ∈ L) (L_out : out ∈ L) (L_om : om ∈ L) (L_fz : fz ∈ L) (L_cj : cj ∈ L) (ob_arr : ob ≠ arr) (ob_out : ob ≠ out) (ob_om : ob ≠ om) (ob_fz : ob ≠ fz) (ob_cj : ob ≠ cj) (arr_out : arr ≠ out) (arr_om : arr ≠ om) (arr_fz : arr ≠ fz) (arr_cj : arr ≠ cj) (out_om : out ≠ om) (out_fz : out ≠ fz) (out_cj : out ≠ cj) (om_fz : om ≠ fz) (om_cj : om ≠ cj) (fz_cj : fz ≠ cj) (L_na : ∀ k, k < N → na k ∈ L) (na_ne : ∀ k, k < N → na k ≠ ob ∧ na k ≠ arr ∧ na k ≠ out ∧ na k ≠ om ∧ na k ≠ fz ∧ na k ≠ cj) (na_inj : ∀ k j, k < N → j < N → na k = na j → k = j) (fa_in : ∀ k, k < N → fa k = some (na k)) (fa_out : ∀ k, N ≤ k → fa k = none) (kd_ok : ∀ k, k < 8 → kd k < 2 ∧ ff k = fI (kd k) ∧ CK (kd k) cv k) : ST ob arr out om fz cj L N kd na fa ff cv := ⟨hN, L_ob, L_arr, L_out, L_om, L_fz, L_cj, ob_arr, ob_out, ob_om, ob_fz, ob_cj, arr_out, arr_om, arr_fz, arr_cj, out_om, out_fz, out_cj, om_fz, om_cj, fz_cj, L_na, na_ne, na_inj, fa_in, fa_out, kd_ok⟩
def BS (ad : Nat → Nat) (cyN : ClassId) (ob arr N : Nat) (kd na : Nat → Nat) (fa : Nat → Option Nat) (mvs : Int32) (twi : Int64) (tna : Int32) (cv : Nat → Int64) (g : Nat → va_E) : Prop :=
  g ob = .inr (2, [.ref arr, .int (nI N), .int mvs, .long twi, .int tna]) ∧ g arr = .inl (cyN, 8, .inr (.inr (.inr (.inr fa)))) ∧ ∀ k, k < N → g (na k) = .inr (1, ndC ad kd cv k)
def MS (cyJ cyZ : ClassId) (om fz cj N : Nat) (ff : Nat → Int32) (cv : Nat → Int64) (mvs : Int32) (twi : Int64) (tna kt : Int32) (g : Nat → va_E) : Prop :=
  g om = .inr (3, [.ref fz, .ref cj, .int (nI N), .int mvs, .int tna, .int kt, .long twi]) ∧ g fz = .inl (cyZ, 8, .inl ff) ∧ g cj = .inl (cyJ, 56, .inr (.inl cv))
/-- what a helper of the law leaves behind it -/
def HP (ad : Nat → Nat) (cyJ cyN : ClassId) (ob arr out om fz cj N : Nat) (kd na : Nat → Nat) (fa : Nat → Option Nat) (twi : Int64) (tna : Int32) (g : Nat → va_E) (mvs : Int32) (cv : Nat → Int64) (kt : Int32) (ret : Int64) (g1 : Nat → va_E) : Prop :=
  BS ad cyN ob arr N kd na fa mvs twi tna cv g1 ∧ (∀ k, k < 8 → CK (kd k) cv k) ∧ (∃ fo : Nat → Int64, g1 out = .inl (cyJ, 1, .inr (.inl fo)) ∧ (kt = 0 → fo 0 = ret)) ∧ g1 om = g om ∧ g1 fz = g fz ∧ g1 cj = g cj
def UM (l : Launch) (y : MethodName) (ws : List Cond) (D : va_G) (tys : List (ClassId × FieldType)) (ad : Nat → Nat) (L : List Nat) (g : Nat → va_E) (As : List Value) (r : Option Value) (P : (Nat → va_E) → Prop) : Prop :=
  ∃ (rm : Room) (mc ms : Nat) (P' : (Nat → va_E) → Prop), Met l y ws rm (PW D tys ad L g As) (QE D tys ad L r P') mc ms (fun q => q ∈ L) ∧ rm.cells = mc ∧ rm.slots = ms ∧ rm.frames ≤ 8 ∧ rm.locals ≤ 187 ∧ mc ≤ 3 ∧ ms ≤ 20 ∧ ∀ g1, P' g1 → P g1
section HU
variable {p : Program} {l : Launch} {e : Env} {R : Room} {s : State} {m : MethodId} {args : Array Value} {below : List Frame} {meth : Method} {c : Code} {H : Heap} {locs : List Loc} {cells slots : Nat} {Q : State → Prop}
variable {cc : ByteArray} {pc : Nat} {ls : Array Slot} {rest st0 : List Value} {A : Nat → Prop} {ad : Nat → Nat} {D : va_G} {tys : List (ClassId × FieldType)} {L : List Nat} {g : Nat → va_E}
variable {y : MethodName} {bytes : ByteArray} {maxL nL n index : Nat} {ret : Option FieldType} {ws Ts : List Cond} {own : String} {As : List Value}
theorem hu_W {hh : List (Nat × Nat × Nat × Nat)} {r : Option Value} {P : (Nat → va_E) → Prop} (S : CallFix p m c cc nL s args Ts own) (hM : UM l y ws D tys ad L g As r P) (cw : ∀ (rm : Room) (mc ms : Nat), rm.cells = mc → rm.slots = ms → rm.frames ≤ 8 → rm.locals ≤ 187 → vx_CSW R s args own index y bytes maxL ret hh ws rm mc ms n)
    (hWW : ∀ U : State, U.heap = H → s.vm.Alike U.vm → WW D tys ad L g U) (hXN : XN s) (hS : va_S A s.heap H locs) (hLA : ∀ q ∈ L, A q) (hn : As.length = n) (hl : ls.size = nL) (hst : st0 = As.reverse ++ rest) (hW : 2 * (F0 m pc ls rest).monitorRoom + (rest.map fun v => v.category).sum ≤ 8)
    (hdg : decode cc pc = .ok (.invokestatic index, 3)) (hf : cells + 3 ≤ R.cells ∧ slots + 20 ≤ R.slots)
    (kk : ∀ (g1 : Nat → va_E) (H1 : Heap) (locs1 : List Loc), P g1 → va_P D vwCl (va_pl L g1) H1 → va_D A (va_pl L g1) → va_S A s.heap H1 locs1 → W p l e R s m args below meth c H1 locs1 (cells + 3) (slots + 20) Q (F0 m (pc + 3) ls (r.toList ++ rest))) : W p l e R s m args below meth c H locs cells slots Q (F0 m pc ls st0) := by
  obtain ⟨rm, mc, ms, P', hM, e1, e2, e3, e4, e5, e6, e7⟩ := hM
  exact hs_W S hM (cw rm mc ms e1 e2 e3 e4) hWW hXN hS hLA hn hl hst hW hdg ⟨by omega, by omega⟩ (fun g1 H1 locs1 hp hP hD hS1 => W.widen (k := cells + 3) (n := slots + 20) (by omega) (by omega) (kk g1 H1 locs1 (e7 g1 hp) hP hD hS1))
/-- the law's call of 'needle', which may bring a cell -/
theorem hu_N {hh : List (Nat × Nat × Nat × Nat)} {rm : Room} {code : Nat} {P : Nat → (Nat → va_E) → Prop} (S : CallFix p m c cc nL s args Ts own) (hM : Met l y ws rm (PWn D tys ad L g H.size As) (QL D tys ad L g code P) 3 20 (PA L H.size)) (cw : vx_CSW R s args own index y bytes maxL ret hh ws rm 3 20 n)
    (hWW : ∀ U : State, U.heap = H → s.vm.Alike U.vm → WW D tys ad L g U) (hXN : XN s) (hS : va_S A s.heap H locs) (hLA : ∀ q ∈ L, A q) (hA : ∀ q, s.heap.size ≤ q → A q) (hn : As.length = n) (hl : ls.size = nL) (hst : st0 = As.reverse ++ rest) (hW : 2 * (F0 m pc ls rest).monitorRoom + (rest.map fun v => v.category).sum ≤ 8)
    (hdg : decode cc pc = .ok (.invokestatic index, 3)) (hf : cells + 3 ≤ R.cells ∧ slots + 20 ≤ R.slots)
    (k1 : code = 0 → ∀ (q : Nat) (g1 : Nat → va_E) (H1 : Heap) (locs1 : List Loc), q ∉ L → P q g1 → (∀ z ∈ L ++ [q], A z) → va_P D vwCl (va_pl (L ++ [q]) g1) H1 → va_D A (va_pl (L ++ [q]) g1) → va_S A s.heap H1 locs1 → W p l e R s m args below meth c H1 locs1 (cells + 3) (slots + 20) Q (F0 m (pc + 3) ls (.int (nI (code - 1)) :: rest)))
    (k2 : ¬ code = 0 → ∀ (H1 : Heap) (locs1 : List Loc), va_P D vwCl (va_pl L g) H1 → va_D A (va_pl L g) → va_S A s.heap H1 locs1 → W p l e R s m args below meth c H1 locs1 (cells + 3) (slots + 20) Q (F0 m (pc + 3) ls (.int (nI (code - 1)) :: rest))) : W p l e R s m args below meth c H locs cells slots Q (F0 m pc ls st0) := by
  subst hst
  intro T hT X
  have hfA : ∀ q, PA L H.size q → A q := fun q h => h.elim (hLA q) (fun h => hA q (Nat.le_trans hS.1 h))
  obtain ⟨v, st₀, t, T', L', h0, X', hL', e1, e2, ⟨hv, hcase, hF⟩, st⟩ := vx_runSW (g := F0 m pc ls (As.reverse ++ rest)) S hM cw ⟨PWn.blind D tys ad L g _ _, fun U hU hW => ⟨rfl, hWW U hU hW.alike, hXN.warm hW, by rw [hU]⟩⟩ rfl hn hl rfl hW hdg hf T hT X
  cases hv
  obtain ⟨c1, c2, c3⟩ := vx_keep (free := PA L H.size) h0 e1 hS (fun q _ h => hLA q h) hfA hL' hF
  rcases hcase with ⟨hc0, q, g1, hqL, hqs, hw, hp⟩ | ⟨hc0, hw⟩
  · have hq2 : ∀ z ∈ L ++ [q], A z := fun z hz => (List.mem_append.mp hz).elim (fun h => hLA z h) (fun h => by rw [List.mem_singleton.mp h]; exact hfA q (Or.inr (by rw [← h0]; exact hqs)))
    obtain ⟨t2, a1, b1⟩ := k1 hc0 q g1 T'.heap (locs ++ L') hqL hp hq2 (by rw [e1]; exact hw.1) (hw.2.2.1.weaken (fun _ _ hk _ => hq2 _ (pl_in hk))) c3 T' rfl X'
    exact ⟨t2, st t2 a1, b1⟩
  · obtain ⟨t2, a1, b1⟩ := k2 hc0 T'.heap (locs ++ L') (by rw [e1]; exact hw.1) (we_D hLA hw.2.2.1) c3 T' rfl X'
    exact ⟨t2, st t2 a1, b1⟩
end HU
theorem ndC_eq {ad kd : Nat → Nat} {cv cv' : Nat → Int64} {k : Nat} (h : ∀ w, w < 7 → cv' (7 * k + w) = cv (7 * k + w)) : ndC ad kd cv' k = ndC ad kd cv k := by
  unfold ndC
  rw [h 0 (by decide), h 1 (by decide), h 2 (by decide), h 3 (by decide), h 4 (by decide), h 5 (by decide), h 6 (by decide)]
theorem CK_eq {i : Nat} {cv cv' : Nat → Int64} {k : Nat} (h : ∀ w, w < 7 → cv' (7 * k + w) = cv (7 * k + w)) (hc : CK i cv k) : CK i cv' k := by
  unfold CK at hc ⊢
  rw [h 0 (by decide), h 1 (by decide), h 2 (by decide), h 3 (by decide), h 4 (by decide), h 5 (by decide)]
  exact hc
section US
variable {ad : Nat → Nat} {cyJ cyN cyZ : ClassId} {ob arr out om fz cj : Nat} {L : List Nat} {N : Nat} {kd na : Nat → Nat} {fa : Nat → Option Nat} {ff : Nat → Int32} {cv : Nat → Int64} {mvs tna kt : Int32} {twi : Int64} {g : Nat → va_E} {fo : Nat → Int64}
theorem ST.pres (I : ST ob arr out om fz cj L N kd na fa ff cv) (x : Int32) : (∃ k, k < N ∧ x = nI k ∧ vp_in x 8 ∧ fa x.toNatClampNeg = some (na k)) ∨ ((∀ k, k < N → ¬ x = nI k) ∧ (¬ vp_in x 8 ∨ fa x.toNatClampNeg = none)) := by
  have hN := I.hN
  by_cases h : ∃ k, k < N ∧ x = nI k
  · obtain ⟨k, hk, rfl⟩ := h
    exact Or.inl ⟨k, hk, rfl, vp_in_nI (by omega) (by decide), by rw [nI_clamp (by omega)]; exact I.fa_in k hk⟩
  · refine Or.inr ⟨fun k hk e => h ⟨k, hk, e⟩, ?_⟩
    by_cases hv : vp_in x 8
    · obtain ⟨j, hj, rfl⟩ := vp_in_of hv (by decide)
      refine Or.inr ?_
      rw [nI_clamp (by omega)]
      exact I.fa_out j (Nat.le_of_not_lt (fun z => h ⟨j, z, rfl⟩))
    · exact Or.inl hv
/-- nothing moved -/
theorem hp_no (I : ST ob arr out om fz cj L N kd na fa ff cv) (hB : BS ad cyN ob arr N kd na fa mvs twi tna cv g) (hO : g out = .inl (cyJ, 1, .inr (.inl fo))) {k' : Int32} (hk' : ¬ k' = 0) (ret : Int64) {g1 : Nat → va_E} (h : ∀ q, g1 q = g q) : HP ad cyJ cyN ob arr out om fz cj N kd na fa twi tna g mvs cv k' ret g1 :=
  ⟨⟨(h ob).trans hB.1, (h arr).trans hB.2.1, fun k hk => (h (na k)).trans (hB.2.2 k hk)⟩, fun k hk => (I.kd_ok k hk).2.2, ⟨fo, (h out).trans hO, fun z => absurd z hk'⟩, h om, h fz, h cj⟩
theorem nI_no {c : Nat} (h : c < 4) (h0 : ¬ c = 0) : ¬ nI c = 0 := nI_ne0 (by omega) (by omega)
/-- one needle moved -/
theorem hp_mv (I : ST ob arr out om fz cj L N kd na fa ff cv) (hB : BS ad cyN ob arr N kd na fa mvs twi tna cv g) {mvs' : Int32} {cv' : Nat → Int64} {k : Nat} (hk : k < N) (hck : CK (kd k) cv' k) (hfr : ∀ j, j < 7 * k ∨ 7 * k + 7 ≤ j → cv' j = cv j) {k' : Int32} {ret : Int64} {g1 : Nat → va_E} {fo' : Nat → Int64} (hr : k' = 0 → fo' 0 = ret)
    (p1 : g1 (na k) = .inr (1, ndC ad kd cv' k)) (p2 : g1 ob = .inr (2, [.ref arr, .int (nI N), .int mvs', .long twi, .int tna])) (p3 : g1 out = .inl (cyJ, 1, .inr (.inl fo'))) (p4 : ∀ q : Nat, q ≠ na k → q ≠ ob → q ≠ out → g1 q = g q) : HP ad cyJ cyN ob arr out om fz cj N kd na fa twi tna g mvs' cv' k' ret g1 := by
  obtain ⟨n1, n2, n3, n4, n5, n6⟩ := I.na_ne k hk
  have oth : ∀ j, ¬ j = k → ∀ w, w < 7 → cv' (7 * j + w) = cv (7 * j + w) := fun j hj w hw => hfr _ (by omega)
  refine ⟨⟨p2, (p4 arr n2.symm I.ob_arr.symm I.arr_out).trans hB.2.1, fun j hj => ?_⟩, fun j hj => ?_, ⟨fo', p3, hr⟩, p4 om n4.symm I.ob_om.symm I.out_om.symm, p4 fz n5.symm I.ob_fz.symm I.out_fz.symm, p4 cj n6.symm I.ob_cj.symm I.out_cj.symm⟩
  · by_cases e : j = k
    · rw [e]; exact p1
    · obtain ⟨m1, m2, m3, -⟩ := I.na_ne j hj
      rw [p4 (na j) (fun z => e (I.na_inj j k hj hk z)) m1 m3, ndC_eq (oth j e)]
      exact hB.2.2 j hj
  · by_cases e : j = k
    · rw [e]; exact hck
    · exact CK_eq (oth j e) (I.kd_ok j hj).2.2
theorem hp_mvr {α : Type} (I : ST ob arr out om fz cj L N kd na fa ff cv) (hB : BS ad cyN ob arr N kd na fa mvs twi tna cv g) (hO : g out = .inl (cyJ, 1, .inr (.inl fo))) {k : Nat} (hk : k < N) {c : Nat × α × Int64 × Int64 × Int64 × Int64 × Int32} {m : α × (Nat → Int64) × Int32 × Int32} (hR : MvR (kd k) k cv mvs c m) (w : α → Int64) {g1 : Nat → va_E}
    (h0 : c.1 = 0 → g1 (na k) = .inr (1, [.ref (ad (kd k)), .long (cv (7 * k + 0)), .long (cv (7 * k + 1)), .long c.2.2.1, .long (cv (7 * k + 3)), .long c.2.2.2.1, .long c.2.2.2.2.1, .long c.2.2.2.2.2.1]) ∧ g1 ob = .inr (2, [.ref arr, .int (nI N), .int c.2.2.2.2.2.2, .long twi, .int tna]) ∧ g1 out = .inl (cyJ, 1, .inr (.inl (vp_updL fo (0 : Int32).toNatClampNeg (w c.2.1)))) ∧ ∀ q : Nat, q ≠ na k → q ≠ ob → q ≠ out → g1 q = g q) (h1 : ¬ c.1 = 0 → ∀ q : Nat, g1 q = g q) :
    HP ad cyJ cyN ob arr out om fz cj N kd na fa twi tna g m.2.2.1 m.2.1 m.2.2.2 (w m.1) g1 := by
  obtain ⟨r1, r2, r3, r4⟩ := hR
  by_cases z : c.1 = 0
  · obtain ⟨e1, e2, e3, e4, e5⟩ := r3 z
    obtain ⟨p1, p2, p3, p4⟩ := h0 z
    rw [e1] at p1 p2
    dsimp only at p1 p2
    rw [e2]
    refine hp_mv I hB hk e4 (fun j hj => e5 j (by omega) (by omega) (by omega) (by omega)) (fun _ => ?_) ?_ p2 p3 p4
    · show vp_updL fo 0 (w c.2.1) 0 = w m.1
      unfold vp_updL; rw [if_pos rfl, e3]
    · unfold ndC
      rw [e5 (7 * k + 0) (by omega) (by omega) (by omega) (by omega), e5 (7 * k + 1) (by omega) (by omega) (by omega) (by omega), e5 (7 * k + 3) (by omega) (by omega) (by omega) (by omega)]
      exact p1
  · obtain ⟨e1, e2⟩ := r4 z
    rw [e1, e2]
    exact hp_no I hB hO (by rw [r1]; exact nI_no r2 z) _ (h1 z)
/-- only the answer came -/
theorem hp_rd (I : ST ob arr out om fz cj L N kd na fa ff cv) (hB : BS ad cyN ob arr N kd na fa mvs twi tna cv g) (hO : g out = .inl (cyJ, 1, .inr (.inl fo))) {cc : Nat} {v ret : Int64} (h4 : cc < 4) (hv : v = ret) {g1 : Nat → va_E}
    (h0 : cc = 0 → g1 out = .inl (cyJ, 1, .inr (.inl (vp_updL fo (0 : Int32).toNatClampNeg v))) ∧ ∀ q : Nat, q ≠ out → g1 q = g q) (h1 : ¬ cc = 0 → ∀ q : Nat, g1 q = g q) : HP ad cyJ cyN ob arr out om fz cj N kd na fa twi tna g mvs cv (nI cc) ret g1 := by
  by_cases z : cc = 0
  · obtain ⟨p3, p4⟩ := h0 z
    refine ⟨⟨(p4 ob I.ob_out).trans hB.1, (p4 arr I.arr_out).trans hB.2.1, fun k hk => (p4 (na k) (I.na_ne k hk).2.2.1).trans (hB.2.2 k hk)⟩, fun k hk => (I.kd_ok k hk).2.2, ⟨_, p3, fun _ => ?_⟩, p4 om I.out_om.symm, p4 fz I.out_fz.symm, p4 cj I.out_cj.symm⟩
    show vp_updL fo 0 v 0 = ret
    unfold vp_updL; rw [if_pos rfl, hv]
  · exact hp_no I hB hO (nI_no h4 z) _ (h1 z)
/-! the model's side -/
theorem ms_of {g1 : Nat → va_E} (hM : MS cyJ cyZ om fz cj N ff cv mvs twi tna kt g) (h1 : g1 om = g om) (h2 : g1 fz = g fz) (h3 : g1 cj = g cj) : MS cyJ cyZ om fz cj N ff cv mvs twi tna kt g1 := ⟨h1.trans hM.1, h2.trans hM.2.1, h3.trans hM.2.2⟩
theorem mp_2 {g1 : Nat → va_E} {ff' : Nat → Int32} {cv0 cv' : Nat → Int64} {mvs0 mvs' kt0 kt' tna0 tna' : Int32} {twi0 twi' : Int64} (I : ST ob arr out om fz cj L N kd na fa ff' cv') (hM : MS cyJ cyZ om fz cj N ff cv0 mvs0 twi0 tna0 kt0 g) (p1 : g1 om = .inr (3, [.ref fz, .ref cj, .int (nI N), .int mvs', .int tna', .int kt', .long twi'])) (p2 : g1 cj = .inl (cyJ, 56, .inr (.inl cv'))) (p3 : ∀ q : Nat, q ≠ om → q ≠ cj → g1 q = g q) : MS cyJ cyZ om fz cj N ff cv' mvs' twi' tna' kt' g1 :=
  ⟨p1, (p3 fz I.om_fz.symm I.fz_cj).trans hM.2.1, p2⟩
theorem mp_1 {g1 : Nat → va_E} {ff' : Nat → Int32} {cv' : Nat → Int64} {mvs0 mvs' kt0 kt' tna0 tna' : Int32} {twi0 twi' : Int64} (I : ST ob arr out om fz cj L N kd na fa ff' cv') (hM : MS cyJ cyZ om fz cj N ff cv mvs0 twi0 tna0 kt0 g) (p1 : g1 om = .inr (3, [.ref fz, .ref cj, .int (nI N), .int mvs', .int tna', .int kt', .long twi'])) (p3 : ∀ q : Nat, q ≠ om → g1 q = g q) : MS cyJ cyZ om fz cj N ff cv mvs' twi' tna' kt' g1 :=
  ⟨p1, (p3 fz I.om_fz.symm).trans hM.2.1, (p3 cj I.om_cj.symm).trans hM.2.2⟩
theorem bs_keep {g1 : Nat → va_E} (I : ST ob arr out om fz cj L N kd na fa ff cv) (hB : BS ad cyN ob arr N kd na fa mvs twi tna cv g) (p3 : ∀ q : Nat, q ≠ om → q ≠ fz → q ≠ cj → g1 q = g q) : BS ad cyN ob arr N kd na fa mvs twi tna cv g1 :=
  ⟨(p3 ob I.ob_om I.ob_fz I.ob_cj).trans hB.1, (p3 arr I.arr_om I.arr_fz I.arr_cj).trans hB.2.1, fun k hk => (p3 (na k) (I.na_ne k hk).2.2.2.1 (I.na_ne k hk).2.2.2.2.1 (I.na_ne k hk).2.2.2.2.2).trans (hB.2.2 k hk)⟩
theorem ST.cells {cv' : Nat → Int64} (I : ST ob arr out om fz cj L N kd na fa ff cv) (h : ∀ k, k < 8 → CK (kd k) cv' k) : ST ob arr out om fz cj L N kd na fa ff cv' :=
  ST.mk0 I.hN I.L_ob I.L_arr I.L_out I.L_om I.L_fz I.L_cj I.ob_arr I.ob_out I.ob_om I.ob_fz I.ob_cj I.arr_out I.arr_om I.arr_fz I.arr_cj I.out_om I.out_fz I.out_cj I.om_fz I.om_cj I.fz_cj I.L_na I.na_ne I.na_inj I.fa_in I.fa_out (fun k hk => ⟨(I.kd_ok k hk).1, (I.kd_ok k hk).2.1, h k hk⟩)
end US
