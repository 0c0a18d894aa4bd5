/-! the start of the law: what the Statement gives of the world -/
theorem nw_of {w : Cond} (h : nwOk w = true) {args : Array Value} {s : State} (hb : w.before args s = true) : va_Nw w s := by
  cases w <;> first | exact hb | exact absurd h (by simp [nwOk])
theorem sx_two {P : Nat → Prop} (h0 : P 0) (h1 : P 1) : ∀ i : Nat, i < 2 → P i := by
  intro i hi
  rcases (show i = 0 ∨ i = 1 by omega) with rfl | rfl
  · exact h0
  · exact h1
set_option maxRecDepth 100000 in
theorem st_KC {b : Nat} {s : State} (hts : ∀ w ∈ lw_tbl, w.before #[Value.ref b] s = true) (hgv : (Jvm.Cond.and given_1 narrow_1).before #[Value.ref b] s = true) : ∃ ad : Nat → Nat, KC ad (fun q : Nat => s.heap.size ≤ q) s s.heap := by
  have hs := flat_of_before _ hgv
  have hA : ∀ a : Nat, a < s.heap.size → ¬ (fun q : Nat => s.heap.size ≤ q) a := fun a h => Nat.not_le.mpr h
  obtain ⟨ad, h1, hev⟩ := va_Enof2 (E := RX0) (d := "LNeedleBoard$Kind;") (nm := ["FINE", "COARSE"]) (F := []) (A := fun q : Nat => s.heap.size ≤ q) (args := #[Value.ref b]) (s := s)
    (sx_two (hts (.laysStatic RX0 "FINE" "LNeedleBoard$Kind;") (by decide +kernel)) (hts (.laysStatic RX0 "COARSE" "LNeedleBoard$Kind;") (by decide +kernel)))
    (hts (.initialized RX0) (by decide +kernel))
    (sx_two (hs (.exactly (.static RX0 "FINE" "LNeedleBoard$Kind;") RX0) (by decide +kernel)) (hs (.exactly (.static RX0 "COARSE" "LNeedleBoard$Kind;") RX0) (by decide +kernel)))
    (fun q hq => absurd hq List.not_mem_nil)
    (by
      intro i j hi hj hne
      have h9 : (Cond.not (.eq (.static RX0 "FINE" "LNeedleBoard$Kind;") (.static RX0 "COARSE" "LNeedleBoard$Kind;"))).before #[Value.ref b] s = true := hs _ (by decide +kernel)
      have hi : i < 2 := hi
      have hj : j < 2 := hj
      rcases (show (i = 0 ∧ j = 1) ∨ (i = 1 ∧ j = 0) by omega) with ⟨rfl, rfl⟩ | ⟨rfl, rfl⟩
      · exact Or.inl h9
      · exact Or.inr h9)
    hA
  refine ⟨ad, h1, ?_, ?_, ?_, ?_, ?_, ?_⟩
  · exact va_Efof (E := RX0) (d0 := "LNeedleBoard$Kind;") (nm := ["FINE", "COARSE"]) (tm := fun i => if i = 0 then .int (52) else .int (23)) hev
      (sx_two (hs (.eq (.field (.static RX0 "FINE" "LNeedleBoard$Kind;") RX0 "fractionBits" "I") (.int (52))) (by decide +kernel)) (hs (.eq (.field (.static RX0 "COARSE" "LNeedleBoard$Kind;") RX0 "fractionBits" "I") (.int (23))) (by decide +kernel)))
      (sx_two rfl rfl) hA
  · exact va_Efof (E := RX0) (d0 := "LNeedleBoard$Kind;") (nm := ["FINE", "COARSE"]) (tm := fun i => if i = 0 then .int (1023) else .int (127)) hev
      (sx_two (hs (.eq (.field (.static RX0 "FINE" "LNeedleBoard$Kind;") RX0 "bias" "I") (.int (1023))) (by decide +kernel)) (hs (.eq (.field (.static RX0 "COARSE" "LNeedleBoard$Kind;") RX0 "bias" "I") (.int (127))) (by decide +kernel)))
      (sx_two rfl rfl) hA
  · exact va_Efof (E := RX0) (d0 := "LNeedleBoard$Kind;") (nm := ["FINE", "COARSE"]) (tm := fun i => if i = 0 then .long (-9223372036854775808) else .long (-2147483648)) hev
      (sx_two (hs (.eq (.field (.static RX0 "FINE" "LNeedleBoard$Kind;") RX0 "sideBits" "J") (.long (-9223372036854775808))) (by decide +kernel)) (hs (.eq (.field (.static RX0 "COARSE" "LNeedleBoard$Kind;") RX0 "sideBits" "J") (.long (-2147483648))) (by decide +kernel)))
      (sx_two rfl rfl) hA
  · exact va_Efof (E := RX0) (d0 := "LNeedleBoard$Kind;") (nm := ["FINE", "COARSE"]) (tm := fun i => if i = 0 then .long (4503599627370496) else .long (8388608)) hev
      (sx_two (hs (.eq (.field (.static RX0 "FINE" "LNeedleBoard$Kind;") RX0 "hiddenBit" "J") (.long (4503599627370496))) (by decide +kernel)) (hs (.eq (.field (.static RX0 "COARSE" "LNeedleBoard$Kind;") RX0 "hiddenBit" "J") (.long (8388608))) (by decide +kernel)))
      (sx_two rfl rfl) hA
  · exact va_Efof (E := RX0) (d0 := "LNeedleBoard$Kind;") (nm := ["FINE", "COARSE"]) (tm := fun i => if i = 0 then .long (4607182418800017408) else .long (1065353216)) hev
      (sx_two (hs (.eq (.field (.static RX0 "FINE" "LNeedleBoard$Kind;") RX0 "one" "J") (.long (4607182418800017408))) (by decide +kernel)) (hs (.eq (.field (.static RX0 "COARSE" "LNeedleBoard$Kind;") RX0 "one" "J") (.long (1065353216))) (by decide +kernel)))
      (sx_two rfl rfl) hA
  · exact va_Efof (E := RX0) (d0 := "LNeedleBoard$Kind;") (nm := ["FINE", "COARSE"]) (tm := fun i => if i = 0 then .long (9218868437227405312) else .long (2139095040)) hev
      (sx_two (hs (.eq (.field (.static RX0 "FINE" "LNeedleBoard$Kind;") RX0 "infinity" "J") (.long (9218868437227405312))) (by decide +kernel)) (hs (.eq (.field (.static RX0 "COARSE" "LNeedleBoard$Kind;") RX0 "infinity" "J") (.long (2139095040))) (by decide +kernel)))
      (sx_two rfl rfl) hA
set_option maxRecDepth 100000 in
theorem st_TC {b : Nat} {s : State} (hts : ∀ w ∈ lw_tbl, w.before #[Value.ref b] s = true) (hgv : (Jvm.Cond.and given_1 narrow_1).before #[Value.ref b] s = true) : TC (fun q : Nat => s.heap.size ≤ q) s s.heap := by
  have hs := flat_of_before _ hgv
  have hA : ∀ a : Nat, a < s.heap.size → ¬ (fun q : Nat => s.heap.size ≤ q) a := fun a h => Nat.not_le.mpr h
  exact ⟨vx_Zqof (args := #[Value.ref b]) (hts (.laysStatic Bundle.tN "UNASSIGNED_STACK" Bundle.steD) (by decide +kernel)) (hts (.initialized Bundle.tN) (by decide +kernel)) (hs (.isRef (.static Bundle.tN "UNASSIGNED_STACK" Bundle.steD)) (by decide +kernel)) hA,
    vx_Zqof (args := #[Value.ref b]) (hts (.laysStatic Bundle.tN "SUPPRESSED_SENTINEL" Bundle.listD) (by decide +kernel)) (hts (.initialized Bundle.tN) (by decide +kernel)) (hs (.isRef (.static Bundle.tN "SUPPRESSED_SENTINEL" Bundle.listD)) (by decide +kernel)) hA⟩
theorem st_text {b : Nat} {s : State} (hts : ∀ w ∈ lw_tbl, w.before #[Value.ref b] s = true) {k : Nat} {tx : String} (h1 : Cond.stringRef RX2 k tx ∈ lw_tbl) (h2 : (Cond.exactly (.string RX2 k) "java/lang/String").before #[Value.ref b] s = true) : ∃ sa : Nat, vk_R RX2 k tx sa s := by
  obtain ⟨a, c, cell, k', q1, -⟩ := Cond.exactly_spec h2
  exact ⟨a, vk_R.of (hts _ h1) q1⟩
set_option maxRecDepth 100000 in
theorem st_NW : ∀ w ∈ NW, w ∈ lw_tbl := by decide +kernel
set_option maxRecDepth 100000 in
theorem st_XN {b : Nat} {s : State} (hts : ∀ w ∈ lw_tbl, w.before #[Value.ref b] s = true) (hgv : (Jvm.Cond.and given_1 narrow_1).before #[Value.ref b] s = true) : XN s := by
  have hs := flat_of_before _ hgv
  refine ⟨⟨?_, ?_⟩, fun w hw => nw_of (NW_ok w hw) (hts w (st_NW w hw))⟩
  · unfold xsTexts
    exact List.forall_mem_cons.mpr ⟨st_text hts (by decide +kernel) (hs (.exactly (.string RX2 34) "java/lang/String") (by decide +kernel)), List.forall_mem_cons.mpr ⟨st_text hts (by decide +kernel) (hs (.exactly (.string RX2 45) "java/lang/String") (by decide +kernel)), List.forall_mem_cons.mpr ⟨st_text hts (by decide +kernel) (hs (.exactly (.string RX2 72) "java/lang/String") (by decide +kernel)), List.forall_mem_cons.mpr ⟨st_text hts (by decide +kernel) (hs (.exactly (.string RX2 91) "java/lang/String") (by decide +kernel)), List.forall_mem_cons.mpr ⟨st_text hts (by decide +kernel) (hs (.exactly (.string RX2 118) "java/lang/String") (by decide +kernel)), List.forall_mem_cons.mpr ⟨st_text hts (by decide +kernel) (hs (.exactly (.string RX2 120) "java/lang/String") (by decide +kernel)), List.forall_mem_cons.mpr ⟨st_text hts (by decide +kernel) (hs (.exactly (.string RX2 136) "java/lang/String") (by decide +kernel)), List.forall_mem_cons.mpr ⟨st_text hts (by decide +kernel) (hs (.exactly (.string RX2 145) "java/lang/String") (by decide +kernel)), List.forall_mem_cons.mpr ⟨st_text hts (by decide +kernel) (hs (.exactly (.string RX2 163) "java/lang/String") (by decide +kernel)), List.forall_mem_cons.mpr ⟨st_text hts (by decide +kernel) (hs (.exactly (.string RX2 173) "java/lang/String") (by decide +kernel)), fun _ h => absurd h List.not_mem_nil⟩⟩⟩⟩⟩⟩⟩⟩⟩⟩
  · exact List.forall_mem_cons.mpr ⟨va_Nc.of (hs (.not (.castable "java/lang/IllegalArgumentException" "java/util/NoSuchElementException")) (by decide +kernel)), List.forall_mem_cons.mpr ⟨va_Nc.of (hs (.not (.castable "java/lang/IllegalStateException" "java/util/NoSuchElementException")) (by decide +kernel)), List.forall_mem_cons.mpr ⟨va_Nc.of (hs (.not (.castable "java/lang/IllegalStateException" "java/lang/IllegalArgumentException")) (by decide +kernel)), fun _ h => absurd h List.not_mem_nil⟩⟩⟩
