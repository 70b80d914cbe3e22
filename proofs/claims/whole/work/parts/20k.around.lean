/-! The start: classes, rows' classes, what is around; then the two constructors and the row of one long. -/
theorem nestF_in : ∀ q ∈ nestF, Cond.fieldLinkNest q.1 q.2.1 q.2.2.1 q.2.2.2.1 q.2.2.2.2 "RackBench" ∈ lw_tbl := by decide +kernel
theorem nestM_in : ∀ q ∈ nestM, Cond.methodLinkNest RX10 q.1 q.2 "RackBench" ∈ lw_tbl := by decide +kernel
theorem ty_prim {args : Array Value} {s : State} {ty : FieldType} (h : (Cond.arrayClass ty).before args s = true) : ∃ cA : ClassId, ArrOfT s cA ty ∧ s.vm.findClass ("[" ++ ty.toString) = some cA := by
  obtain ⟨cA, k, comp, h1, h2, h3⟩ := Cond.arrayClass_spec h
  exact ⟨cA, fun n z => ⟨fun k h => (by cases h), k, h2, comp, h3⟩, h1⟩
theorem ty_obj {args : Array Value} {s : State} {C : String} (h : (Cond.arrayOver (.object C)).before args s = true) : ∃ cA : ClassId, ArrOfT s cA (.object C) ∧ va_RA s cA (.object C) := by
  obtain ⟨comp, cA, k, h1, h2, h3, h4, h5⟩ := Cond.arrayOver_spec h
  exact ⟨cA, fun n z => ⟨fun k h => (by cases h), k, h3, comp, h4⟩, k, comp, h3, h4, h1, h5⟩
theorem ty_arr {args : Array Value} {s : State} {ty : FieldType} (h : (Cond.arrayOver (.array ty)).before args s = true) : ∃ cA : ClassId, ArrOfT s cA (.array ty) ∧ va_RA s cA (.array ty) := by
  obtain ⟨comp, cA, k, h1, h3, h4, h5⟩ := Cond.arrayOver_specA h
  exact ⟨cA, fun n z => ⟨fun k h => (by cases h), k, h3, comp, h4⟩, h5⟩
theorem st_K {args : Array Value} {s : State} (hts : ∀ w ∈ lw_tbl, w.before args s = true) : ∃ (G : va_G) (Y : Nat → ClassId), va_K G vwCl (tyL Y) s := by
  obtain ⟨cX0, iX0, hX0⟩ := u_known (C := RX0) (T := TX0) (N := 6) (n := 6) hts inX0 (hts (.instantiable RX0 6) (by decide +kernel))
  obtain ⟨cX1, iX1, hX1⟩ := u_known (C := RX1) (T := TX1) (N := 3) (n := 3) hts inX1 (hts (.instantiable RX1 3) (by decide +kernel))
  obtain ⟨cX2, iX2, hX2⟩ := u_known (C := RX2) (T := TX2) (N := 3) (n := 3) hts inX2 (hts (.instantiable RX2 3) (by decide +kernel))
  obtain ⟨cX3, iX3, hX3⟩ := u_known (C := RX3) (T := TX3) (N := 4) (n := 4) hts inX3 (hts (.instantiable RX3 4) (by decide +kernel))
  obtain ⟨cX4, iX4, hX4⟩ := u_known (C := RX4) (T := TX4) (N := 6) (n := 6) hts inX4 (hts (.instantiable RX4 6) (by decide +kernel))
  obtain ⟨cX6, iX6, hX6⟩ := u_known (C := RX6) (T := TX6) (N := 6) (n := 6) hts inX6 (hts (.instantiable RX6 6) (by decide +kernel))
  obtain ⟨cX7, iX7, hX7⟩ := u_known (C := RX7) (T := TX7) (N := 2) (n := 2) hts inX7 (hts (.instantiable RX7 2) (by decide +kernel))
  obtain ⟨cX8, iX8, hX8⟩ := u_known (C := RX8) (T := TX8) (N := 3) (n := 3) hts inX8 (hts (.instantiable RX8 3) (by decide +kernel))
  obtain ⟨cX9, iX9, hX9⟩ := u_known (C := RX9) (T := TX9) (N := 2) (n := 2) hts inX9 (hts (.instantiable RX9 2) (by decide +kernel))
  obtain ⟨cX10, iX10, hX10⟩ := u_known (C := RX10) (T := TX10) (N := 15) (n := 15) hts inX10 (hts (.instantiable RX10 15) (by decide +kernel))
  obtain ⟨cX11, iX11, hX11⟩ := u_known (C := RX11) (T := TX11) (N := 29) (n := 29) hts inX11 (hts (.instantiable RX11 29) (by decide +kernel))
  obtain ⟨a0, b0, d0⟩ := ty_prim (hts (.arrayClass .int) (by decide +kernel))
  obtain ⟨a1, b1, d1⟩ := ty_prim (hts (.arrayClass .boolean) (by decide +kernel))
  obtain ⟨a2, b2, d2⟩ := ty_obj (hts (.arrayOver (.object "RackBench$Table")) (by decide +kernel))
  obtain ⟨a3, b3, d3⟩ := ty_arr (hts (.arrayOver (.array .int)) (by decide +kernel))
  obtain ⟨a4, b4, d4⟩ := ty_prim (hts (.arrayClass .long) (by decide +kernel))
  refine ⟨(fun k => ([cX0, cX1, cX2, cX3, cX4, cX6, cX7, cX8, cX9, cX10, cX11] : List ClassId).getD k cX0, fun k => ([iX0, iX1, iX2, iX3, iX4, iX6, iX7, iX8, iX9, iX10, iX11] : List (Nat → Nat)).getD k iX0), fun k => ([a0, a1, a2, a3, a4] : List ClassId).getD k a0, ?_, ?_⟩
  · intro k q hq
    match k, hq with
    | 0, hq => cases hq; exact hX0
    | 1, hq => cases hq; exact hX1
    | 2, hq => cases hq; exact hX2
    | 3, hq => cases hq; exact hX3
    | 4, hq => cases hq; exact hX4
    | 5, hq => cases hq; exact hX6
    | 6, hq => cases hq; exact hX7
    | 7, hq => cases hq; exact hX8
    | 8, hq => cases hq; exact hX9
    | 9, hq => cases hq; exact hX10
    | 10, hq => cases hq; exact hX11
    | k + 11, hq => simp [vwCl] at hq
  · intro k q hq
    match k, hq with
    | 0, hq => cases hq; exact ⟨b0, d0⟩
    | 1, hq => cases hq; exact ⟨b1, d1⟩
    | 2, hq => cases hq; exact ⟨b2, d2⟩
    | 3, hq => cases hq; exact ⟨b3, d3⟩
    | 4, hq => cases hq; exact ⟨b4, d4⟩
    | k + 5, hq => simp [tyL] at hq
theorem st_fact {args : Array Value} {s : State} {A : Nat → Prop} (hg : ∀ w ∈ flatC (Jvm.Cond.and given_1 narrow_1), w.before args s = true) (hA : ∀ a : Nat, a < s.heap.size → ¬ A a) : ∃ t : Nat, (Term.static "RackBench" "FACTORIALS" "[I").eval args s none [] s = some (.ref t) ∧ va_T .int t 9 (fun j => .int (fct j)) A s s.heap := by
  refine va_Tof (N := 9) (by decide) (hg (.arrayOf (Term.static "RackBench" "FACTORIALS" "[I") .int) (by decide +kernel)) (va_eqt (z := 9) (hg (.eq (.length (Term.static "RackBench" "FACTORIALS" "[I")) (.int 9)) (by decide +kernel))) (fun j hj => ?_) hA
  match j, hj with
  | 0, _ => exact va_eqt (z := 1) (hg (.eq (.elem (Term.static "RackBench" "FACTORIALS" "[I") (.int 0)) (.int 1)) (by decide +kernel))
  | 1, _ => exact va_eqt (z := 1) (hg (.eq (.elem (Term.static "RackBench" "FACTORIALS" "[I") (.int 1)) (.int 1)) (by decide +kernel))
  | 2, _ => exact va_eqt (z := 2) (hg (.eq (.elem (Term.static "RackBench" "FACTORIALS" "[I") (.int 2)) (.int 2)) (by decide +kernel))
  | 3, _ => exact va_eqt (z := 6) (hg (.eq (.elem (Term.static "RackBench" "FACTORIALS" "[I") (.int 3)) (.int 6)) (by decide +kernel))
  | 4, _ => exact va_eqt (z := 24) (hg (.eq (.elem (Term.static "RackBench" "FACTORIALS" "[I") (.int 4)) (.int 24)) (by decide +kernel))
  | 5, _ => exact va_eqt (z := 120) (hg (.eq (.elem (Term.static "RackBench" "FACTORIALS" "[I") (.int 5)) (.int 120)) (by decide +kernel))
  | 6, _ => exact va_eqt (z := 720) (hg (.eq (.elem (Term.static "RackBench" "FACTORIALS" "[I") (.int 6)) (.int 720)) (by decide +kernel))
  | 7, _ => exact va_eqt (z := 5040) (hg (.eq (.elem (Term.static "RackBench" "FACTORIALS" "[I") (.int 7)) (.int 5040)) (by decide +kernel))
  | 8, _ => exact va_eqt (z := 40320) (hg (.eq (.elem (Term.static "RackBench" "FACTORIALS" "[I") (.int 8)) (.int 40320)) (by decide +kernel))
  | j + 9, hj => omega
theorem st_text {args : Array Value} {s : State} {k : Nat} {tx : String} (h1 : (Cond.stringRef "RackBench" k tx).before args s = true) (h2 : (Cond.exactly (.string "RackBench" k) "java/lang/String").before args s = true) : ∃ a, vk_R RX10 k tx a s := by
  obtain ⟨a, _, _, _, h3, _⟩ := Cond.exactly_spec h2
  exact ⟨a, vk_R.of (A := args) h1 h3⟩
theorem st_Ev {args : Array Value} {s : State} {A : Nat → Prop} (hts : ∀ w ∈ lw_tbl, w.before args s = true) (hg : ∀ w ∈ flatC (Jvm.Cond.and given_1 narrow_1), w.before args s = true) (hA : ∀ a : Nat, a < s.heap.size → ¬ A a) : ∃ tF : Nat, EvI A tF s ∧ EvX A tF s := by
  obtain ⟨tF, h1, h2⟩ := st_fact hg hA
  have h0 : Ev A tF s := ⟨fun q hq => va_Nw.of rfl (hts _ (nestF_in q hq)), va_Zref (hts (.laysStatic "RackBench" "FACTORIALS" "[I") (by decide +kernel)) (hts (.initialized "RackBench") (by decide +kernel)) h1 hA, h2⟩
  refine ⟨tF, ⟨h0, fun k q hq => va_Nw.of rfl (hts _ (nestM_in q (List.mem_of_getElem? hq))), va_AO.of (hts (.arrayOver (.object "RackBench$Table")) (by decide +kernel)), hts (.arrayOver (.array .int)) (by decide +kernel)⟩, h0, ?_, ?_, ?_, ?_, ?_, ?_, ?_, ?_⟩
  · exact vx_Zqof (hts (.laysStatic Bundle.tN "UNASSIGNED_STACK" Bundle.steD) (by decide +kernel)) (hts (.initialized Bundle.tN) (by decide +kernel)) (hg (.isRef (.static Bundle.tN "UNASSIGNED_STACK" Bundle.steD)) (by decide +kernel)) hA
  · exact vx_Zqof (hts (.laysStatic Bundle.tN "SUPPRESSED_SENTINEL" Bundle.listD) (by decide +kernel)) (hts (.initialized Bundle.tN) (by decide +kernel)) (hg (.isRef (.static Bundle.tN "SUPPRESSED_SENTINEL" Bundle.listD)) (by decide +kernel)) hA
  · exact st_text (hts (.stringRef "RackBench" 109 "no such things") (by decide +kernel)) (hg (.exactly (.string "RackBench" 109) "java/lang/String") (by decide +kernel))
  · exact st_text (hts (.stringRef "RackBench" 276 "no such number in the row") (by decide +kernel)) (hg (.exactly (.string "RackBench" 276) "java/lang/String") (by decide +kernel))
  · exact va_Nw.of rfl (hts (.declares (Bundle.initS "java/lang/RuntimeException")) (by decide +kernel))
  · exact va_Nw.of rfl (hts (.declares (Bundle.initS "java/lang/Exception")) (by decide +kernel))
  · exact va_Nw.of rfl (hts (.declares (Bundle.initS Bundle.tN)) (by decide +kernel))
  · exact va_Nw.of rfl (hts (.castable "java/util/NoSuchElementException" "java/util/NoSuchElementException") (by decide +kernel))
