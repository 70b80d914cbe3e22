abbrev w_X11_adds (Y : Nat → ClassId) (h_t : Nat) (B_t : Nat → Nat) (t_thrown : Int32) (t_n : Int32) (t_modulus : Int32) (t_rows : Int32) (t_strands : Int32) (t_letters : Int32) (t_listedMany : Int32) (t_listN : Int32) (t_listWhat : Int32) (t_equations : Nat → Int32) : va_W := [(h_t, .inr (10, [.int t_thrown, .int t_n, .ref (B_t 2), .int t_modulus, .ref (B_t 4), .ref (B_t 5), .ref (B_t 6), .ref (B_t 7), .ref (B_t 8), .ref (B_t 9), .ref (B_t 10), .int t_rows, .ref (B_t 12), .ref (B_t 13), .ref (B_t 14), .ref (B_t 15), .ref (B_t 16), .ref (B_t 17), .ref (B_t 18), .ref (B_t 19), .int t_strands, .int t_letters, .ref (B_t 22), .ref (B_t 23), .ref (B_t 24), .ref (B_t 25), .int t_listedMany, .int t_listN, .int t_listWhat])), ((B_t 19), .inl (Y 0, 32768, .inl t_equations))]

set_option maxHeartbeats 20000000 in
set_option maxRecDepth 100000 in
theorem wk_X11_adds {p : Program} {l : Launch} {e : Env} {R : Room} {s : State} {m : MethodId} {args : Array Value} {below : List Frame} {meth : Method} {c : Code} {Q : State → Prop} {G : va_G} {Y : Nat → ClassId} {tF : Nat} {A : Nat → Prop} (h_t : Nat) (B_t : Nat → Nat) (t_thrown : Int32) (t_n : Int32) (t_modulus : Int32) (t_rows : Int32) (t_strands : Int32) (t_letters : Int32) (t_listedMany : Int32) (t_listN : Int32) (t_listWhat : Int32) (t_equations : Nat → Int32) (x1 : Int32) (x2 : Int32) (x3 : Int32) (x4 : Int32) (x5 : Int32) {K : (Nat → Int32) → Prop} (hx : p.tables.exec = Jvm.exec) (hb : c.code = cX11_adds) (hml : c.maxLocals = 7) (hown : s.vm.findClass RX11 = some m.cls) (hts : ∀ w ∈ wsX11_adds, w.before args s = true) (hK : va_K G vwCl (tyL Y) s) (hE : Ev A tF s) (hA : ∀ q, s.heap.size ≤ q → A q) (hRf : 1 ≤ R.frames) (hRl : 22 ≤ R.locals) (hret : ∀ (t_equations : Nat → Int32) (H : Heap) (locs : List Loc) (ls : Array Slot) (pc : Nat), va_P G vwCl (w_X11_adds Y h_t B_t t_thrown t_n t_modulus t_rows t_strands t_letters t_listedMany t_listN t_listWhat t_equations) H → va_D A (w_X11_adds Y h_t B_t t_thrown t_n t_modulus t_rows t_strands t_letters t_listedMany t_listN t_listWhat t_equations) → va_S A s.heap H locs → K t_equations → decode cX11_adds pc = .ok (.return_, 1) → W p l e R s m args below meth c H locs 0 0 Q (F0 m pc ls [])) (hP : va_P G vwCl (w_X11_adds Y h_t B_t t_thrown t_n t_modulus t_rows t_strands t_letters t_listedMany t_listN t_listWhat t_equations) s.heap) (hD : va_D A (w_X11_adds Y h_t B_t t_thrown t_n t_modulus t_rows t_strands t_letters t_listedMany t_listN t_listWhat t_equations)) (h : pX11_adds t_equations x1 x2 x3 x4 x5 K) : W p l e R s m args below meth c s.heap [] 0 0 Q (entryFrame m ([.ref h_t, .int x1, .int x2, .int x3, .int x4, .int x5] : List Value).toArray 7) := by
  have inX11 : ∀ w ∈ u_ws RX11 TX11 29, w ∈ wsX11_adds := by decide +kernel
  have hf65 := hts (.fieldLink RX11 65 "RackBenchModel" "equations" "[I") (by decide +kernel)
  have hl := lv_entry ([.ref h_t, .int x1, .int x2, .int x3, .int x4, .int x5]) (n := 7) (Nat.le_of_ble_eq_true rfl)
  rw [lg_entry_eq]
  generalize (lg_sl ([.ref h_t, .int x1, .int x2, .int x3, .int x4, .int x5]) ++ List.replicate (7 - (lg_sl ([.ref h_t, .int x1, .int x2, .int x3, .int x4, .int x5])).length) Slot.unset).toArray = ls at hl ⊢
  have hl : lv_has ls 7 [(0, .ref h_t), (1, .int x1), (2, .int x2), (3, .int x3), (4, .int x4), (5, .int x5)] := hl
  generalize hH0 : s.heap = H at hP ⊢
  have hS : va_S A s.heap H [] := by rw [← hH0]; exact va_S.rf
  clear hH0
  generalize ([] : List Loc) = locs at hS ⊢
  refine lv_bipush (v := 64) hx hb dX11_adds_0 (by decide) ?_
  refine lv_iload_n hx hb dX11_adds_2 rfl (lv_at hl 1 rfl) ?_
  refine lv_imul hx hb dX11_adds_3 ?_
  refine lv_bipush (v := 8) hx hb dX11_adds_4 (by decide) ?_
  refine lv_iload_n hx hb dX11_adds_6 rfl (lv_at hl 2 rfl) ?_
  refine lv_imul hx hb dX11_adds_7 ?_
  refine lv_iadd hx hb dX11_adds_8 ?_
  refine lv_iload_n hx hb dX11_adds_9 rfl (lv_at hl 3 rfl) ?_
  refine lv_iadd hx hb dX11_adds_10 ?_
  refine lv_istore (lv' := [(6, .int ((((64 : Int32) * x1) + ((8 : Int32) * x2)) + x3)), (0, .ref h_t), (1, .int x1), (2, .int x2), (3, .int x3), (4, .int x4), (5, .int x5)]) hx hb dX11_adds_11 hl (by decide) rfl (fun ls hl => ?_)
  refine lv_aload_n hx hb dX11_adds_13 rfl (lv_at hl 1 rfl) ?_
  refine va_get (D := G) (ci := 10) (v := .ref (B_t 19)) (C := RX11) (T := TX11) (N := 29) hx hb hts inX11 hown hK hP 0 rfl rfl 19 (by decide) hf65 (fun _ h9 => h9) rfl dX11_adds_14 ?_
  refine lv_iload hx hb dX11_adds_17 (lv_at hl 0 rfl) ?_
  refine lv_aload_n hx hb dX11_adds_19 rfl (lv_at hl 1 rfl) ?_
  refine va_get (D := G) (ci := 10) (v := .ref (B_t 19)) (C := RX11) (T := TX11) (N := 29) hx hb hts inX11 hown hK hP 0 rfl rfl 19 (by decide) hf65 (fun _ h9 => h9) rfl dX11_adds_20 ?_
  refine lv_iload hx hb dX11_adds_23 (lv_at hl 0 rfl) ?_
  obtain ⟨hin, h⟩ := h
  refine va_iald hx hb hK hP 1 0 rfl rfl hin dX11_adds_25 ?_
  refine lv_iload hx hb dX11_adds_26 (lv_at hl 5 rfl) ?_
  refine lv_iadd hx hb dX11_adds_28 ?_
  refine lv_iload hx hb dX11_adds_29 (lv_at hl 6 rfl) ?_
  refine mc_iS ⟨hx, hb, hml, hown, hts⟩ hK hE hA hP hD hS (c_J9_floorMod_7cf53 l G Y tF H.size ((t_equations (Int32.toNatClampNeg ((((64 : Int32) * x1) + ((8 : Int32) * x2)) + x3))) + x4) x5 h) (va_cwS 2 hts gX11_adds_J9_floorMod_7cf53 rfl rfl rfl (by decide +kernel) ⟨Nat.le_trans (by decide) hRf, Nat.le_trans (by decide) hRl⟩) (fun u => (w_X11_adds Y h_t B_t t_thrown t_n t_modulus t_rows t_strands t_letters t_listedMany t_listN t_listWhat t_equations)) [] [0, 1] [0, 1] rfl rfl rfl rfl (by decide) (fun _ => rfl) rfl rfl hl.1 rfl (Nat.le_of_ble_eq_true rfl) dX11_adds_31 (fun r31 u H locs h hP hD hS => ?_)
  try dsimp only at h
  have hP : va_P G vwCl (w_X11_adds Y h_t B_t t_thrown t_n t_modulus t_rows t_strands t_letters t_listedMany t_listN t_listWhat t_equations) H := hP
  have hD : va_D A (w_X11_adds Y h_t B_t t_thrown t_n t_modulus t_rows t_strands t_letters t_listedMany t_listN t_listWhat t_equations) := hD
  obtain ⟨hin, h⟩ := h
  refine va_iast hx hb hK hP hD hS 1 0 rfl rfl hin dX11_adds_34 (fun H locs hP hD hS => ?_)
  have hP : va_P G vwCl (w_X11_adds Y h_t B_t t_thrown t_n t_modulus t_rows t_strands t_letters t_listedMany t_listN t_listWhat (upd t_equations (Int32.toNatClampNeg ((((64 : Int32) * x1) + ((8 : Int32) * x2)) + x3)) r31)) H := hP
  have hD : va_D A (w_X11_adds Y h_t B_t t_thrown t_n t_modulus t_rows t_strands t_letters t_listedMany t_listN t_listWhat (upd t_equations (Int32.toNatClampNeg ((((64 : Int32) * x1) + ((8 : Int32) * x2)) + x3)) r31)) := hD
  exact hret (upd t_equations (Int32.toNatClampNeg ((((64 : Int32) * x1) + ((8 : Int32) * x2)) + x3)) r31) H locs ls _ hP hD hS h dX11_adds_35

set_option maxHeartbeats 20000000 in
set_option maxRecDepth 100000 in
theorem c_X11_adds (l : Launch) (G : va_G) (Y : Nat → ClassId) (tF sz : Nat) (h_t : Nat) (B_t : Nat → Nat) (t_thrown : Int32) (t_n : Int32) (t_modulus : Int32) (t_rows : Int32) (t_strands : Int32) (t_letters : Int32) (t_listedMany : Int32) (t_listN : Int32) (t_listWhat : Int32) (t_equations : Nat → Int32) (x1 : Int32) (x2 : Int32) (x3 : Int32) (x4 : Int32) (x5 : Int32) {K : (Nat → Int32) → Prop} (h : pX11_adds t_equations x1 x2 x3 x4 x5 K) : Met l yX11_adds wsX11_adds ({ frames := 1, cells := 0, slots := 0, locals := 22 }) (PcM G Y tF sz (w_X11_adds Y h_t B_t t_thrown t_n t_modulus t_rows t_strands t_letters t_listedMany t_listN t_listWhat t_equations) [.ref h_t, .int x1, .int x2, .int x3, .int x4, .int x5]) (va_Qv (fun u : (Nat → Int32) => K u) (fun u t => BM G Y (va_A (w_X11_adds Y h_t B_t t_thrown t_n t_modulus t_rows t_strands t_letters t_listedMany t_listN t_listWhat t_equations) sz) (w_X11_adds Y h_t B_t t_thrown t_n t_modulus t_rows t_strands t_letters t_listedMany t_listN t_listWhat u) t) (va_A (w_X11_adds Y h_t B_t t_thrown t_n t_modulus t_rows t_strands t_letters t_listedMany t_listN t_listWhat t_equations) sz)) 0 0 (va_A (w_X11_adds Y h_t B_t t_thrown t_n t_modulus t_rows t_strands t_letters t_listedMany t_listN t_listWhat t_equations) sz) := by
  refine Met.ofW (cc := cX11_adds) (maxL := 7) (ret := none) (by decide +kernel) rfl ?_
  intro p e s m args below meth c s₁ B hml hv
  obtain ⟨rfl, hsz, hP, hK, hD0, hE⟩ := hv
  have hts := atoms_spec (ws := wsX11_adds) B.pre
  have hown : s.vm.findClass RX11 = some m.cls := findClass_of_methodNamed B.named
  have hlocks := B.notSynchronized
  subst hsz
  have hD := hD0.self (sz := s.heap.size)
  exact wk_X11_adds h_t B_t t_thrown t_n t_modulus t_rows t_strands t_letters t_listedMany t_listN t_listWhat t_equations x1 x2 x3 x4 x5 B.exec B.bytes hml hown hts hK hE (fun q h => Or.inr h) (Nat.le_refl _) (Nat.le_refl _) (fun t_equations H locs ls pc hP hD hS hk hd => W.vret B.exec B.bytes B.returns (fun t ht hW => ⟨⟨t_equations, rfl, hk, by rw [ht]; exact hP, va_K.moved hW.alike hK, hD⟩, hS.F ht⟩) hS.2.2 hd) hP hD h

abbrev w_X11_power (Y : Nat → ClassId) (h_t : Nat) (B_t : Nat → Nat) (t_thrown : Int32) (t_n : Int32) (t_modulus : Int32) (t_rows : Int32) (t_strands : Int32) (t_letters : Int32) (t_listedMany : Int32) (t_listN : Int32) (t_listWhat : Int32) (t_equations : Nat → Int32) (t_h : Nat → Int32) (t_orbit : Nat → Int32) (t_table : Nat → Int32) : va_W := [(h_t, .inr (10, [.int t_thrown, .int t_n, .ref (B_t 2), .int t_modulus, .ref (B_t 4), .ref (B_t 5), .ref (B_t 6), .ref (B_t 7), .ref (B_t 8), .ref (B_t 9), .ref (B_t 10), .int t_rows, .ref (B_t 12), .ref (B_t 13), .ref (B_t 14), .ref (B_t 15), .ref (B_t 16), .ref (B_t 17), .ref (B_t 18), .ref (B_t 19), .int t_strands, .int t_letters, .ref (B_t 22), .ref (B_t 23), .ref (B_t 24), .ref (B_t 25), .int t_listedMany, .int t_listN, .int t_listWhat])), ((B_t 19), .inl (Y 0, 32768, .inl t_equations)), ((B_t 7), .inl (Y 0, 8, .inl t_h)), ((B_t 13), .inl (Y 0, 8, .inl t_orbit)), ((B_t 2), .inl (Y 0, 64, .inl t_table))]

set_option maxHeartbeats 20000000 in
set_option maxRecDepth 100000 in
theorem wk_X11_power {p : Program} {l : Launch} {e : Env} {R : Room} {s : State} {m : MethodId} {args : Array Value} {below : List Frame} {meth : Method} {c : Code} {Q : State → Prop} {G : va_G} {Y : Nat → ClassId} {tF : Nat} {A : Nat → Prop} (h_t : Nat) (B_t : Nat → Nat) (t_thrown : Int32) (t_n : Int32) (t_modulus : Int32) (t_rows : Int32) (t_strands : Int32) (t_letters : Int32) (t_listedMany : Int32) (t_listN : Int32) (t_listWhat : Int32) (t_equations : Nat → Int32) (t_h : Nat → Int32) (t_orbit : Nat → Int32) (t_table : Nat → Int32) (x1 : Int32) (x2 : Int32) {K : Int32 → Int32 → (Nat → Int32) → (Nat → Int32) → (Nat → Int32) → Prop} (hx : p.tables.exec = Jvm.exec) (hb : c.code = cX11_power) (hml : c.maxLocals = 7) (hown : s.vm.findClass RX11 = some m.cls) (hts : ∀ w ∈ wsX11_power, w.before args s = true) (hK : va_K G vwCl (tyL Y) s) (hE : Ev A tF s) (hA : ∀ q, s.heap.size ≤ q → A q) (hRf : 3 ≤ R.frames) (hRl : 65 ≤ R.locals) (hret : ∀ (r : Int32) (t_thrown : Int32) (t_equations : Nat → Int32) (t_h : Nat → Int32) (t_orbit : Nat → Int32) (H : Heap) (locs : List Loc) (ls : Array Slot) (pc : Nat), va_P G vwCl (w_X11_power Y h_t B_t t_thrown t_n t_modulus t_rows t_strands t_letters t_listedMany t_listN t_listWhat t_equations t_h t_orbit t_table) H → va_D A (w_X11_power Y h_t B_t t_thrown t_n t_modulus t_rows t_strands t_letters t_listedMany t_listN t_listWhat t_equations t_h t_orbit t_table) → va_S A s.heap H locs → K r t_thrown t_equations t_h t_orbit → decode cX11_power pc = .ok (.ireturn, 1) → W p l e R s m args below meth c H locs 0 0 Q (F0 m pc ls [.int r])) (hP : va_P G vwCl (w_X11_power Y h_t B_t t_thrown t_n t_modulus t_rows t_strands t_letters t_listedMany t_listN t_listWhat t_equations t_h t_orbit t_table) s.heap) (hD : va_D A (w_X11_power Y h_t B_t t_thrown t_n t_modulus t_rows t_strands t_letters t_listedMany t_listN t_listWhat t_equations t_h t_orbit t_table)) (h : pX11_power t_thrown t_n t_equations t_h t_orbit t_table x1 x2 K) : W p l e R s m args below meth c s.heap [] 0 0 Q (entryFrame m ([.ref h_t, .int x1, .int x2] : List Value).toArray 7) := by
  have inX11 : ∀ w ∈ u_ws RX11 TX11 29, w ∈ wsX11_power := by decide +kernel
  have hf65 := hts (.fieldLink RX11 65 "RackBenchModel" "equations" "[I") (by decide +kernel)
  have hf83 := hts (.fieldLink RX11 83 "RackBenchModel" "thrown" "I") (by decide +kernel)
  have hf9 := hts (.fieldLink RX11 9 "RackBenchModel" "n" "I") (by decide +kernel)
  have hl := lv_entry ([.ref h_t, .int x1, .int x2]) (n := 7) (Nat.le_of_ble_eq_true rfl)
  rw [lg_entry_eq]
  generalize (lg_sl ([.ref h_t, .int x1, .int x2]) ++ List.replicate (7 - (lg_sl ([.ref h_t, .int x1, .int x2])).length) Slot.unset).toArray = ls at hl ⊢
  have hl : lv_has ls 7 [(0, .ref h_t), (1, .int x1), (2, .int x2)] := hl
  generalize hH0 : s.heap = H at hP ⊢
  have hS : va_S A s.heap H [] := by rw [← hH0]; exact va_S.rf
  clear hH0
  generalize ([] : List Loc) = locs at hS ⊢
  have J26 : ∀ (x1 : Int32) (x2 : Int32) (t_thrown : Int32) (t_equations : Nat → Int32) (t_h : Nat → Int32) (t_orbit : Nat → Int32) (H : Heap) (locs : List Loc) (ls : Array Slot), pX11_power_26 t_n t_table K x1 x2 t_thrown t_equations t_h t_orbit → va_P G vwCl (w_X11_power Y h_t B_t t_thrown t_n t_modulus t_rows t_strands t_letters t_listedMany t_listN t_listWhat t_equations t_h t_orbit t_table) H → va_D A (w_X11_power Y h_t B_t t_thrown t_n t_modulus t_rows t_strands t_letters t_listedMany t_listN t_listWhat t_equations t_h t_orbit t_table) → va_S A s.heap H locs → lv_has ls 7 [(0, .ref h_t), (1, .int x1), (2, .int x2)] → W p l e R s m args below meth c H locs 0 0 Q (F0 m 26 ls []) := by
    intro x1 x2 t_thrown t_equations t_h t_orbit H locs ls h hP hD hS hl
    refine lv_iload_n hx hb dX11_power_26 rfl (lv_at hl 2 rfl) ?_
    refine lv_i2l hx hb dX11_power_27 rfl ?_
    refine lv_lconst (v := 0) hx hb dX11_power_28 (by decide) ?_
    refine lv_lconst (v := 1) hx hb dX11_power_29 (by decide) ?_
    refine mc_iS ⟨hx, hb, hml, hown, hts⟩ hK hE hA hP hD hS (c_X11_in l G Y tF H.size (Int32.toInt64 x2) (0 : Int64) (1 : Int64) h) (va_cwS 3 hts gX11_power_X11_in rfl rfl rfl (by decide +kernel) ⟨Nat.le_trans (by decide) hRf, Nat.le_trans (by decide) hRl⟩) (fun u => (w_X11_power Y h_t B_t t_thrown t_n t_modulus t_rows t_strands t_letters t_listedMany t_listN t_listWhat t_equations t_h t_orbit t_table)) [] [0, 1, 2, 3, 4] [0, 1, 2, 3, 4] rfl rfl rfl rfl (by decide) (fun _ => rfl) rfl rfl hl.1 rfl (Nat.le_of_ble_eq_true rfl) dX11_power_30 (fun r30 u H locs h hP hD hS => ?_)
    try dsimp only at h
    have hP : va_P G vwCl (w_X11_power Y h_t B_t t_thrown t_n t_modulus t_rows t_strands t_letters t_listedMany t_listN t_listWhat t_equations t_h t_orbit t_table) H := hP
    have hD : va_D A (w_X11_power Y h_t B_t t_thrown t_n t_modulus t_rows t_strands t_letters t_listedMany t_listN t_listWhat t_equations t_h t_orbit t_table) := hD
    obtain ⟨ht, hf⟩ := h
    refine lv_if_eq (tgt := 43) hx hb dX11_power_33 (by decide) (fun c9 => ?_) (fun c9 => ?_)
    · have h := ht c9
      refine lv_iconst (v := -1) hx hb dX11_power_43 (by decide) ?_
      exact hret (-1 : Int32) t_thrown t_equations t_h t_orbit H locs ls _ hP hD hS h dX11_power_44
    · have h := hf c9
      refine lv_aload_n hx hb dX11_power_36 rfl (lv_at hl 0 rfl) ?_
      refine mc_iV ⟨hx, hb, hml, hown, hts⟩ hK hE hA hP hD hS (c_X11_isRack l G Y tF H.size h_t B_t t_thrown t_n t_modulus t_rows t_strands t_letters t_listedMany t_listN t_listWhat t_table h) (cwV 0 hts gX11_power_X11_isRack rfl rfl rfl (by decide +kernel) ⟨Nat.le_trans (by decide) hRf, Nat.le_trans (by decide) hRl⟩) (fun u => (w_X11_power Y h_t B_t t_thrown t_n t_modulus t_rows t_strands t_letters t_listedMany t_listN t_listWhat t_equations t_h t_orbit t_table)) [0, 4] [1, 2, 3] [3, 0, 1, 2, 4] rfl rfl rfl rfl (by decide) (fun _ => rfl) rfl 0 10 rfl rfl rfl rfl hl.1 rfl (Nat.le_of_ble_eq_true rfl) dX11_power_37 (fun r37 u H locs h hP hD hS => ?_)
      try dsimp only at h
      have hP : va_P G vwCl (w_X11_power Y h_t B_t t_thrown t_n t_modulus t_rows t_strands t_letters t_listedMany t_listN t_listWhat t_equations t_h t_orbit t_table) H := hP
      have hD : va_D A (w_X11_power Y h_t B_t t_thrown t_n t_modulus t_rows t_strands t_letters t_listedMany t_listN t_listWhat t_equations t_h t_orbit t_table) := hD
      obtain ⟨ht, hf⟩ := h
      refine lv_if_ne (tgt := 45) hx hb dX11_power_40 (by decide) (fun c9 => ?_) (fun c9 => ?_)
      · have h := ht c9
        refine lv_iload_n hx hb dX11_power_45 rfl (lv_at hl 2 rfl) ?_
        refine lv_iconst (v := 1) hx hb dX11_power_46 (by decide) ?_
        obtain ⟨ht, hf⟩ := h
        refine lv_icmp_ne (tgt := 60) hx hb dX11_power_47 (by decide) (fun c9 => ?_) (fun c9 => ?_)
        · have h := ht c9
          refine lv_iconst (v := 0) hx hb dX11_power_60 (by decide) ?_
          refine lv_istore_n (lv' := [(3, .int (0 : Int32)), (0, .ref h_t), (1, .int x1), (2, .int x2)]) hx hb dX11_power_61 rfl hl (by decide) rfl (fun ls hl => ?_)
          obtain ⟨I62, m62, hI62, hB62⟩ := h
          have L62 : ∀ (x1 : Int32) (t_thrown : Int32) (t_h : Nat → Int32) (t_orbit : Nat → Int32) (I62 : Int32 → (Nat → Int32) → Prop) (m62 : Int32 → (Nat → Int32) → Nat), (∀ (x3 : Int32) (t_equations : Nat → Int32), I62 x3 t_equations → pX11_power_62 t_n t_table K x1 t_thrown t_h t_orbit x3 t_equations (fun x3' t_equations' => I62 x3' t_equations' ∧ m62 x3' t_equations' < m62 x3 t_equations)) → ∀ (n : Nat) (x3 : Int32) (t_equations : Nat → Int32) (H : Heap) (locs : List Loc) (ls : Array Slot), I62 x3 t_equations → m62 x3 t_equations < n → va_P G vwCl (w_X11_power Y h_t B_t t_thrown t_n t_modulus t_rows t_strands t_letters t_listedMany t_listN t_listWhat t_equations t_h t_orbit t_table) H → va_D A (w_X11_power Y h_t B_t t_thrown t_n t_modulus t_rows t_strands t_letters t_listedMany t_listN t_listWhat t_equations t_h t_orbit t_table) → va_S A s.heap H locs → lv_has ls 7 [(0, .ref h_t), (1, .int x1), (3, .int x3)] → W p l e R s m args below meth c H locs 0 0 Q (F0 m 62 ls []) := by
            intro x1 t_thrown t_h t_orbit I62 m62 hB62 n
            induction n with
            | zero => intro x3 t_equations H locs ls _ hm; exact absurd hm (Nat.not_lt_zero _)
            | succ n ih =>
              intro x3 t_equations H locs ls hI hm hP hD hS hl
              obtain ⟨R62, h, rec62⟩ : ∃ R62 : Int32 → (Nat → Int32) → Prop, pX11_power_62 t_n t_table K x1 t_thrown t_h t_orbit x3 t_equations R62 ∧ ∀ (x3 : Int32) (t_equations : Nat → Int32) (H : Heap) (locs : List Loc) (ls : Array Slot), R62 x3 t_equations → va_P G vwCl (w_X11_power Y h_t B_t t_thrown t_n t_modulus t_rows t_strands t_letters t_listedMany t_listN t_listWhat t_equations t_h t_orbit t_table) H → va_D A (w_X11_power Y h_t B_t t_thrown t_n t_modulus t_rows t_strands t_letters t_listedMany t_listN t_listWhat t_equations t_h t_orbit t_table) → va_S A s.heap H locs → lv_has ls 7 [(0, .ref h_t), (1, .int x1), (3, .int x3)] → W p l e R s m args below meth c H locs 0 0 Q (F0 m 62 ls []) := ⟨_, hB62 x3 t_equations hI, fun x3 t_equations H locs ls hh hP hD hS hl => ih x3 t_equations H locs ls hh.1 (Nat.lt_of_lt_of_le hh.2 (Nat.le_of_lt_succ hm)) hP hD hS hl⟩
              refine lv_iload_n hx hb dX11_power_62 rfl (lv_at hl 2 rfl) ?_
              refine lv_aload_n hx hb dX11_power_63 rfl (lv_at hl 0 rfl) ?_
              refine va_get (D := G) (ci := 10) (v := .ref (B_t 19)) (C := RX11) (T := TX11) (N := 29) hx hb hts inX11 hown hK hP 0 rfl rfl 19 (by decide) hf65 (fun _ h9 => h9) rfl dX11_power_64 ?_
              refine va_alen hx hb hK hP 1 0 rfl rfl rfl dX11_power_67 ?_
              obtain ⟨ht, hf⟩ := h
              refine lv_icmp_ge (tgt := 84) hx hb dX11_power_68 (by decide) (fun c9 => ?_) (fun c9 => ?_)
              · have h := ht c9
                refine lv_iconst (v := 0) hx hb dX11_power_84 (by decide) ?_
                refine lv_istore_n (lv' := [(3, .int (0 : Int32)), (0, .ref h_t), (1, .int x1)]) hx hb dX11_power_85 rfl hl (by decide) rfl (fun ls hl => ?_)
                refine lv_iconst (v := 0) hx hb dX11_power_86 (by decide) ?_
                refine lv_istore (lv' := [(4, .int (0 : Int32)), (3, .int (0 : Int32)), (0, .ref h_t), (1, .int x1)]) hx hb dX11_power_87 hl (by decide) rfl (fun ls hl => ?_)
                obtain ⟨I89, m89, hI89, hB89⟩ := h
                have L89 : ∀ (x1 : Int32) (t_thrown : Int32) (t_h : Nat → Int32) (t_orbit : Nat → Int32) (I89 : Int32 → Int32 → (Nat → Int32) → Prop) (m89 : Int32 → Int32 → (Nat → Int32) → Nat), (∀ (x3 : Int32) (x4 : Int32) (t_equations : Nat → Int32), I89 x3 x4 t_equations → pX11_power_89 t_n t_table R62 K x1 t_thrown t_h t_orbit x3 x4 t_equations (fun x3' x4' t_equations' => I89 x3' x4' t_equations' ∧ m89 x3' x4' t_equations' < m89 x3 x4 t_equations)) → ∀ (n : Nat) (x3 : Int32) (x4 : Int32) (t_equations : Nat → Int32) (H : Heap) (locs : List Loc) (ls : Array Slot), I89 x3 x4 t_equations → m89 x3 x4 t_equations < n → va_P G vwCl (w_X11_power Y h_t B_t t_thrown t_n t_modulus t_rows t_strands t_letters t_listedMany t_listN t_listWhat t_equations t_h t_orbit t_table) H → va_D A (w_X11_power Y h_t B_t t_thrown t_n t_modulus t_rows t_strands t_letters t_listedMany t_listN t_listWhat t_equations t_h t_orbit t_table) → va_S A s.heap H locs → lv_has ls 7 [(0, .ref h_t), (1, .int x1), (3, .int x3), (4, .int x4)] → W p l e R s m args below meth c H locs 0 0 Q (F0 m 89 ls []) := by
                  intro x1 t_thrown t_h t_orbit I89 m89 hB89 n
                  induction n with
                  | zero => intro x3 x4 t_equations H locs ls _ hm; exact absurd hm (Nat.not_lt_zero _)
                  | succ n ih =>
                    intro x3 x4 t_equations H locs ls hI hm hP hD hS hl
                    obtain ⟨R89, h, rec89⟩ : ∃ R89 : Int32 → Int32 → (Nat → Int32) → Prop, pX11_power_89 t_n t_table R62 K x1 t_thrown t_h t_orbit x3 x4 t_equations R89 ∧ ∀ (x3 : Int32) (x4 : Int32) (t_equations : Nat → Int32) (H : Heap) (locs : List Loc) (ls : Array Slot), R89 x3 x4 t_equations → va_P G vwCl (w_X11_power Y h_t B_t t_thrown t_n t_modulus t_rows t_strands t_letters t_listedMany t_listN t_listWhat t_equations t_h t_orbit t_table) H → va_D A (w_X11_power Y h_t B_t t_thrown t_n t_modulus t_rows t_strands t_letters t_listedMany t_listN t_listWhat t_equations t_h t_orbit t_table) → va_S A s.heap H locs → lv_has ls 7 [(0, .ref h_t), (1, .int x1), (3, .int x3), (4, .int x4)] → W p l e R s m args below meth c H locs 0 0 Q (F0 m 89 ls []) := ⟨_, hB89 x3 x4 t_equations hI, fun x3 x4 t_equations H locs ls hh hP hD hS hl => ih x3 x4 t_equations H locs ls hh.1 (Nat.lt_of_lt_of_le hh.2 (Nat.le_of_lt_succ hm)) hP hD hS hl⟩
                    refine lv_iload hx hb dX11_power_89 (lv_at hl 3 rfl) ?_
                    refine lv_aload_n hx hb dX11_power_91 rfl (lv_at hl 0 rfl) ?_
                    refine va_get (D := G) (ci := 10) (v := .int t_n) (C := RX11) (T := TX11) (N := 29) hx hb hts inX11 hown hK hP 0 rfl rfl 1 (by decide) hf9 (fun _ h9 => h9) rfl dX11_power_92 ?_
                    obtain ⟨ht, hf⟩ := h
                    refine lv_icmp_ge (tgt := 205) hx hb dX11_power_95 (by decide) (fun c9 => ?_) (fun c9 => ?_)
                    · have h := ht c9
                      refine lv_aload_n hx hb dX11_power_205 rfl (lv_at hl 0 rfl) ?_
                      refine va_get (D := G) (ci := 10) (v := .int t_n) (C := RX11) (T := TX11) (N := 29) hx hb hts inX11 hown hK hP 0 rfl rfl 1 (by decide) hf9 (fun _ h9 => h9) rfl dX11_power_206 ?_
                      refine lv_aload_n hx hb dX11_power_209 rfl (lv_at hl 0 rfl) ?_
                      refine va_get (D := G) (ci := 10) (v := .int t_n) (C := RX11) (T := TX11) (N := 29) hx hb hts inX11 hown hK hP 0 rfl rfl 1 (by decide) hf9 (fun _ h9 => h9) rfl dX11_power_210 ?_
                      refine lv_imul hx hb dX11_power_213 ?_
                      refine lv_aload_n hx hb dX11_power_214 rfl (lv_at hl 0 rfl) ?_
                      refine lv_iload_n hx hb dX11_power_215 rfl (lv_at hl 2 rfl) ?_
                      refine lv_iload_n hx hb dX11_power_216 rfl (lv_at hl 1 rfl) ?_
                      refine mc_iV ⟨hx, hb, hml, hown, hts⟩ hK hE hA hP hD hS (c_X11_rank l G Y tF H.size h_t B_t t_thrown t_n t_modulus t_rows t_strands t_letters t_listedMany t_listN t_listWhat t_equations x3 x1 h) (cwV 2 hts gX11_power_X11_rank rfl rfl rfl (by decide +kernel) ⟨Nat.le_trans (by decide) hRf, Nat.le_trans (by decide) hRl⟩) (fun u => (w_X11_power Y h_t B_t t_thrown t_n t_modulus t_rows t_strands t_letters t_listedMany t_listN t_listWhat u t_h t_orbit t_table)) [0, 1] [2, 3, 4] [3, 4, 0, 1, 2] rfl rfl rfl rfl (by decide) (fun _ => rfl) rfl 0 10 rfl rfl rfl rfl hl.1 rfl (Nat.le_of_ble_eq_true rfl) dX11_power_217 (fun r217 u H locs h hP hD hS => ?_)
                      obtain ⟨t_equations_217, rfl⟩ : ∃ z, z = u := ⟨_, rfl⟩
                      try dsimp only at h
                      have hP : va_P G vwCl (w_X11_power Y h_t B_t t_thrown t_n t_modulus t_rows t_strands t_letters t_listedMany t_listN t_listWhat t_equations_217 t_h t_orbit t_table) H := hP
                      have hD : va_D A (w_X11_power Y h_t B_t t_thrown t_n t_modulus t_rows t_strands t_letters t_listedMany t_listN t_listWhat t_equations_217 t_h t_orbit t_table) := hD
                      refine lv_isub hx hb dX11_power_220 ?_
                      exact hret ((t_n * t_n) - r217) t_thrown t_equations_217 t_h t_orbit H locs ls _ hP hD hS h dX11_power_221
                    · have h := hf c9
                      refine lv_iconst (v := 0) hx hb dX11_power_98 (by decide) ?_
                      refine lv_istore (lv' := [(5, .int (0 : Int32)), (0, .ref h_t), (1, .int x1), (3, .int x3), (4, .int x4)]) hx hb dX11_power_99 hl (by decide) rfl (fun ls hl => ?_)
                      obtain ⟨I101, m101, hI101, hB101⟩ := h
                      have L101 : ∀ (x4 : Int32) (I101 : Int32 → Int32 → (Nat → Int32) → Prop) (m101 : Int32 → Int32 → (Nat → Int32) → Nat), (∀ (x3 : Int32) (x5 : Int32) (t_equations : Nat → Int32), I101 x3 x5 t_equations → pX11_power_101 t_n t_table R89 K x1 t_thrown t_h t_orbit x4 x3 x5 t_equations (fun x3' x5' t_equations' => I101 x3' x5' t_equations' ∧ m101 x3' x5' t_equations' < m101 x3 x5 t_equations)) → ∀ (n : Nat) (x3 : Int32) (x5 : Int32) (t_equations : Nat → Int32) (H : Heap) (locs : List Loc) (ls : Array Slot), I101 x3 x5 t_equations → m101 x3 x5 t_equations < n → va_P G vwCl (w_X11_power Y h_t B_t t_thrown t_n t_modulus t_rows t_strands t_letters t_listedMany t_listN t_listWhat t_equations t_h t_orbit t_table) H → va_D A (w_X11_power Y h_t B_t t_thrown t_n t_modulus t_rows t_strands t_letters t_listedMany t_listN t_listWhat t_equations t_h t_orbit t_table) → va_S A s.heap H locs → lv_has ls 7 [(0, .ref h_t), (1, .int x1), (3, .int x3), (4, .int x4), (5, .int x5)] → W p l e R s m args below meth c H locs 0 0 Q (F0 m 101 ls []) := by
                        intro x4 I101 m101 hB101 n
                        induction n with
                        | zero => intro x3 x5 t_equations H locs ls _ hm; exact absurd hm (Nat.not_lt_zero _)
                        | succ n ih =>
                          intro x3 x5 t_equations H locs ls hI hm hP hD hS hl
                          obtain ⟨R101, h, rec101⟩ : ∃ R101 : Int32 → Int32 → (Nat → Int32) → Prop, pX11_power_101 t_n t_table R89 K x1 t_thrown t_h t_orbit x4 x3 x5 t_equations R101 ∧ ∀ (x3 : Int32) (x5 : Int32) (t_equations : Nat → Int32) (H : Heap) (locs : List Loc) (ls : Array Slot), R101 x3 x5 t_equations → va_P G vwCl (w_X11_power Y h_t B_t t_thrown t_n t_modulus t_rows t_strands t_letters t_listedMany t_listN t_listWhat t_equations t_h t_orbit t_table) H → va_D A (w_X11_power Y h_t B_t t_thrown t_n t_modulus t_rows t_strands t_letters t_listedMany t_listN t_listWhat t_equations t_h t_orbit t_table) → va_S A s.heap H locs → lv_has ls 7 [(0, .ref h_t), (1, .int x1), (3, .int x3), (4, .int x4), (5, .int x5)] → W p l e R s m args below meth c H locs 0 0 Q (F0 m 101 ls []) := ⟨_, hB101 x3 x5 t_equations hI, fun x3 x5 t_equations H locs ls hh hP hD hS hl => ih x3 x5 t_equations H locs ls hh.1 (Nat.lt_of_lt_of_le hh.2 (Nat.le_of_lt_succ hm)) hP hD hS hl⟩
                          refine lv_iload hx hb dX11_power_101 (lv_at hl 4 rfl) ?_
                          refine lv_aload_n hx hb dX11_power_103 rfl (lv_at hl 0 rfl) ?_
                          refine va_get (D := G) (ci := 10) (v := .int t_n) (C := RX11) (T := TX11) (N := 29) hx hb hts inX11 hown hK hP 0 rfl rfl 1 (by decide) hf9 (fun _ h9 => h9) rfl dX11_power_104 ?_
                          obtain ⟨ht, hf⟩ := h
                          refine lv_icmp_ge (tgt := 199) hx hb dX11_power_107 (by decide) (fun c9 => ?_) (fun c9 => ?_)
                          · have h := ht c9
                            refine lv_iinc (v := (x4 + 1)) (lv' := [(4, .int (x4 + 1)), (0, .ref h_t), (1, .int x1), (3, .int x3), (5, .int x5)]) hx hb dX11_power_199 hl (k := 3) rfl rfl (by decide) rfl (fun ls hl => ?_)
                            refine lv_goto (tgt := 89) hx hb dX11_power_202 (by decide) ?_
                            exact rec89 x3 (x4 + 1) t_equations H locs ls h hP hD hS (lv_sub hl [1, 2, 3, 0] rfl)
                          · have h := hf c9
                            refine lv_iconst (v := 0) hx hb dX11_power_110 (by decide) ?_
                            refine lv_istore (lv' := [(6, .int (0 : Int32)), (0, .ref h_t), (1, .int x1), (3, .int x3), (4, .int x4), (5, .int x5)]) hx hb dX11_power_111 hl (by decide) rfl (fun ls hl => ?_)
                            obtain ⟨I113, m113, hI113, hB113⟩ := h
                            have L113 : ∀ (x5 : Int32) (I113 : Int32 → Int32 → (Nat → Int32) → Prop) (m113 : Int32 → Int32 → (Nat → Int32) → Nat), (∀ (x3 : Int32) (x6 : Int32) (t_equations : Nat → Int32), I113 x3 x6 t_equations → pX11_power_113 t_n t_table R89 R101 K x1 t_thrown t_h t_orbit x4 x5 x3 x6 t_equations (fun x3' x6' t_equations' => I113 x3' x6' t_equations' ∧ m113 x3' x6' t_equations' < m113 x3 x6 t_equations)) → ∀ (n : Nat) (x3 : Int32) (x6 : Int32) (t_equations : Nat → Int32) (H : Heap) (locs : List Loc) (ls : Array Slot), I113 x3 x6 t_equations → m113 x3 x6 t_equations < n → va_P G vwCl (w_X11_power Y h_t B_t t_thrown t_n t_modulus t_rows t_strands t_letters t_listedMany t_listN t_listWhat t_equations t_h t_orbit t_table) H → va_D A (w_X11_power Y h_t B_t t_thrown t_n t_modulus t_rows t_strands t_letters t_listedMany t_listN t_listWhat t_equations t_h t_orbit t_table) → va_S A s.heap H locs → lv_has ls 7 [(0, .ref h_t), (1, .int x1), (3, .int x3), (4, .int x4), (5, .int x5), (6, .int x6)] → W p l e R s m args below meth c H locs 0 0 Q (F0 m 113 ls []) := by
                              intro x5 I113 m113 hB113 n
                              induction n with
                              | zero => intro x3 x6 t_equations H locs ls _ hm; exact absurd hm (Nat.not_lt_zero _)
                              | succ n ih =>
                                intro x3 x6 t_equations H locs ls hI hm hP hD hS hl
                                obtain ⟨R113, h, rec113⟩ : ∃ R113 : Int32 → Int32 → (Nat → Int32) → Prop, pX11_power_113 t_n t_table R89 R101 K x1 t_thrown t_h t_orbit x4 x5 x3 x6 t_equations R113 ∧ ∀ (x3 : Int32) (x6 : Int32) (t_equations : Nat → Int32) (H : Heap) (locs : List Loc) (ls : Array Slot), R113 x3 x6 t_equations → va_P G vwCl (w_X11_power Y h_t B_t t_thrown t_n t_modulus t_rows t_strands t_letters t_listedMany t_listN t_listWhat t_equations t_h t_orbit t_table) H → va_D A (w_X11_power Y h_t B_t t_thrown t_n t_modulus t_rows t_strands t_letters t_listedMany t_listN t_listWhat t_equations t_h t_orbit t_table) → va_S A s.heap H locs → lv_has ls 7 [(0, .ref h_t), (1, .int x1), (3, .int x3), (4, .int x4), (5, .int x5), (6, .int x6)] → W p l e R s m args below meth c H locs 0 0 Q (F0 m 113 ls []) := ⟨_, hB113 x3 x6 t_equations hI, fun x3 x6 t_equations H locs ls hh hP hD hS hl => ih x3 x6 t_equations H locs ls hh.1 (Nat.lt_of_lt_of_le hh.2 (Nat.le_of_lt_succ hm)) hP hD hS hl⟩
                                refine lv_iload hx hb dX11_power_113 (lv_at hl 5 rfl) ?_
                                refine lv_aload_n hx hb dX11_power_115 rfl (lv_at hl 0 rfl) ?_
                                refine va_get (D := G) (ci := 10) (v := .int t_n) (C := RX11) (T := TX11) (N := 29) hx hb hts inX11 hown hK hP 0 rfl rfl 1 (by decide) hf9 (fun _ h9 => h9) rfl dX11_power_116 ?_
                                obtain ⟨ht, hf⟩ := h
                                refine lv_icmp_ge (tgt := 193) hx hb dX11_power_119 (by decide) (fun c9 => ?_) (fun c9 => ?_)
                                · have h := ht c9
                                  refine lv_iinc (v := (x5 + 1)) (lv' := [(5, .int (x5 + 1)), (0, .ref h_t), (1, .int x1), (3, .int x3), (4, .int x4), (6, .int x6)]) hx hb dX11_power_193 hl (k := 4) rfl rfl (by decide) rfl (fun ls hl => ?_)
                                  refine lv_goto (tgt := 101) hx hb dX11_power_196 (by decide) ?_
                                  exact rec101 x3 (x5 + 1) t_equations H locs ls h hP hD hS (lv_sub hl [1, 2, 3, 4, 0] rfl)
                                · have h := hf c9
                                  refine lv_aload_n hx hb dX11_power_122 rfl (lv_at hl 0 rfl) ?_
                                  refine lv_iload_n hx hb dX11_power_123 rfl (lv_at hl 2 rfl) ?_
                                  refine lv_iload hx hb dX11_power_124 (lv_at hl 4 rfl) ?_
                                  refine lv_iload hx hb dX11_power_126 (lv_at hl 5 rfl) ?_
                                  refine lv_iconst (v := 1) hx hb dX11_power_128 (by decide) ?_
                                  refine lv_iload_n hx hb dX11_power_129 rfl (lv_at hl 1 rfl) ?_
                                  refine mc_vV ⟨hx, hb, hml, hown, hts⟩ hK hE hA hP hD hS (c_X11_adds l G Y tF H.size h_t B_t t_thrown t_n t_modulus t_rows t_strands t_letters t_listedMany t_listN t_listWhat t_equations x3 x5 x6 (1 : Int32) x1 h) (cwV 5 hts gX11_power_X11_adds rfl rfl rfl (by decide +kernel) ⟨Nat.le_trans (by decide) hRf, Nat.le_trans (by decide) hRl⟩) (fun u => (w_X11_power Y h_t B_t t_thrown t_n t_modulus t_rows t_strands t_letters t_listedMany t_listN t_listWhat u t_h t_orbit t_table)) [0, 1] [2, 3, 4] [3, 4, 0, 1, 2] rfl rfl rfl rfl (by decide) (fun _ => rfl) rfl 0 10 rfl rfl rfl rfl hl.1 rfl (Nat.le_of_ble_eq_true rfl) dX11_power_130 (fun u H locs h hP hD hS => ?_)
                                  obtain ⟨t_equations_130, rfl⟩ : ∃ z, z = u := ⟨_, rfl⟩
                                  try dsimp only at h
                                  have hP : va_P G vwCl (w_X11_power Y h_t B_t t_thrown t_n t_modulus t_rows t_strands t_letters t_listedMany t_listN t_listWhat t_equations_130 t_h t_orbit t_table) H := hP
                                  have hD : va_D A (w_X11_power Y h_t B_t t_thrown t_n t_modulus t_rows t_strands t_letters t_listedMany t_listN t_listWhat t_equations_130 t_h t_orbit t_table) := hD
                                  refine lv_aload_n hx hb dX11_power_133 rfl (lv_at hl 0 rfl) ?_
                                  refine lv_iload_n hx hb dX11_power_134 rfl (lv_at hl 2 rfl) ?_
                                  refine lv_iload hx hb dX11_power_135 (lv_at hl 3 rfl) ?_
                                  refine lv_aload_n hx hb dX11_power_137 rfl (lv_at hl 0 rfl) ?_
                                  refine lv_iload hx hb dX11_power_138 (lv_at hl 4 rfl) ?_
                                  refine lv_iload hx hb dX11_power_140 (lv_at hl 5 rfl) ?_
                                  refine mc_iV ⟨hx, hb, hml, hown, hts⟩ hK hE hA hP hD hS (c_X11_by l G Y tF H.size h_t B_t t_thrown t_n t_modulus t_rows t_strands t_letters t_listedMany t_listN t_listWhat t_table x5 x6 h) (cwV 2 hts gX11_power_X11_by rfl rfl rfl (by decide +kernel) ⟨Nat.le_trans (by decide) hRf, Nat.le_trans (by decide) hRl⟩) (fun u => (w_X11_power Y h_t B_t t_thrown t_n t_modulus t_rows t_strands t_letters t_listedMany t_listN t_listWhat t_equations_130 t_h t_orbit t_table)) [0, 4] [1, 2, 3] [3, 0, 1, 2, 4] rfl rfl rfl rfl (by decide) (fun _ => rfl) rfl 0 10 rfl rfl rfl rfl hl.1 rfl (Nat.le_of_ble_eq_true rfl) dX11_power_142 (fun r142 u H locs h hP hD hS => ?_)
                                  try dsimp only at h
                                  have hP : va_P G vwCl (w_X11_power Y h_t B_t t_thrown t_n t_modulus t_rows t_strands t_letters t_listedMany t_listN t_listWhat t_equations_130 t_h t_orbit t_table) H := hP
                                  have hD : va_D A (w_X11_power Y h_t B_t t_thrown t_n t_modulus t_rows t_strands t_letters t_listedMany t_listN t_listWhat t_equations_130 t_h t_orbit t_table) := hD
                                  refine lv_iconst (v := 1) hx hb dX11_power_145 (by decide) ?_
                                  refine lv_iload_n hx hb dX11_power_146 rfl (lv_at hl 1 rfl) ?_
                                  refine mc_vV ⟨hx, hb, hml, hown, hts⟩ hK hE hA hP hD hS (c_X11_adds l G Y tF H.size h_t B_t t_thrown t_n t_modulus t_rows t_strands t_letters t_listedMany t_listN t_listWhat t_equations_130 x3 x4 r142 (1 : Int32) x1 h) (cwV 5 hts gX11_power_X11_adds rfl rfl rfl (by decide +kernel) ⟨Nat.le_trans (by decide) hRf, Nat.le_trans (by decide) hRl⟩) (fun u => (w_X11_power Y h_t B_t t_thrown t_n t_modulus t_rows t_strands t_letters t_listedMany t_listN t_listWhat u t_h t_orbit t_table)) [0, 1] [2, 3, 4] [3, 4, 0, 1, 2] rfl rfl rfl rfl (by decide) (fun _ => rfl) rfl 0 10 rfl rfl rfl rfl hl.1 rfl (Nat.le_of_ble_eq_true rfl) dX11_power_147 (fun u H locs h hP hD hS => ?_)
                                  obtain ⟨t_equations_147, rfl⟩ : ∃ z, z = u := ⟨_, rfl⟩
                                  try dsimp only at h
                                  have hP : va_P G vwCl (w_X11_power Y h_t B_t t_thrown t_n t_modulus t_rows t_strands t_letters t_listedMany t_listN t_listWhat t_equations_147 t_h t_orbit t_table) H := hP
                                  have hD : va_D A (w_X11_power Y h_t B_t t_thrown t_n t_modulus t_rows t_strands t_letters t_listedMany t_listN t_listWhat t_equations_147 t_h t_orbit t_table) := hD
                                  refine lv_aload_n hx hb dX11_power_150 rfl (lv_at hl 0 rfl) ?_
                                  refine lv_iload_n hx hb dX11_power_151 rfl (lv_at hl 2 rfl) ?_
                                  refine lv_iload hx hb dX11_power_152 (lv_at hl 3 rfl) ?_
                                  refine lv_iload hx hb dX11_power_154 (lv_at hl 5 rfl) ?_
                                  refine lv_iconst (v := -1) hx hb dX11_power_156 (by decide) ?_
                                  refine lv_iload_n hx hb dX11_power_157 rfl (lv_at hl 1 rfl) ?_
                                  refine mc_vV ⟨hx, hb, hml, hown, hts⟩ hK hE hA hP hD hS (c_X11_adds l G Y tF H.size h_t B_t t_thrown t_n t_modulus t_rows t_strands t_letters t_listedMany t_listN t_listWhat t_equations_147 x3 x4 x6 (-1 : Int32) x1 h) (cwV 5 hts gX11_power_X11_adds rfl rfl rfl (by decide +kernel) ⟨Nat.le_trans (by decide) hRf, Nat.le_trans (by decide) hRl⟩) (fun u => (w_X11_power Y h_t B_t t_thrown t_n t_modulus t_rows t_strands t_letters t_listedMany t_listN t_listWhat u t_h t_orbit t_table)) [0, 1] [2, 3, 4] [3, 4, 0, 1, 2] rfl rfl rfl rfl (by decide) (fun _ => rfl) rfl 0 10 rfl rfl rfl rfl hl.1 rfl (Nat.le_of_ble_eq_true rfl) dX11_power_158 (fun u H locs h hP hD hS => ?_)
                                  obtain ⟨t_equations_158, rfl⟩ : ∃ z, z = u := ⟨_, rfl⟩
                                  try dsimp only at h
                                  have hP : va_P G vwCl (w_X11_power Y h_t B_t t_thrown t_n t_modulus t_rows t_strands t_letters t_listedMany t_listN t_listWhat t_equations_158 t_h t_orbit t_table) H := hP
                                  have hD : va_D A (w_X11_power Y h_t B_t t_thrown t_n t_modulus t_rows t_strands t_letters t_listedMany t_listN t_listWhat t_equations_158 t_h t_orbit t_table) := hD
                                  refine lv_aload_n hx hb dX11_power_161 rfl (lv_at hl 0 rfl) ?_
                                  refine lv_iload_n hx hb dX11_power_162 rfl (lv_at hl 2 rfl) ?_
                                  refine lv_aload_n hx hb dX11_power_163 rfl (lv_at hl 0 rfl) ?_
                                  refine lv_iload hx hb dX11_power_164 (lv_at hl 3 rfl) ?_
                                  refine lv_iload hx hb dX11_power_166 (lv_at hl 4 rfl) ?_
                                  refine mc_iV ⟨hx, hb, hml, hown, hts⟩ hK hE hA hP hD hS (c_X11_by l G Y tF H.size h_t B_t t_thrown t_n t_modulus t_rows t_strands t_letters t_listedMany t_listN t_listWhat t_table x4 x5 h) (cwV 2 hts gX11_power_X11_by rfl rfl rfl (by decide +kernel) ⟨Nat.le_trans (by decide) hRf, Nat.le_trans (by decide) hRl⟩) (fun u => (w_X11_power Y h_t B_t t_thrown t_n t_modulus t_rows t_strands t_letters t_listedMany t_listN t_listWhat t_equations_158 t_h t_orbit t_table)) [0, 4] [1, 2, 3] [3, 0, 1, 2, 4] rfl rfl rfl rfl (by decide) (fun _ => rfl) rfl 0 10 rfl rfl rfl rfl hl.1 rfl (Nat.le_of_ble_eq_true rfl) dX11_power_168 (fun r168 u H locs h hP hD hS => ?_)
                                  try dsimp only at h
                                  have hP : va_P G vwCl (w_X11_power Y h_t B_t t_thrown t_n t_modulus t_rows t_strands t_letters t_listedMany t_listN t_listWhat t_equations_158 t_h t_orbit t_table) H := hP
                                  have hD : va_D A (w_X11_power Y h_t B_t t_thrown t_n t_modulus t_rows t_strands t_letters t_listedMany t_listN t_listWhat t_equations_158 t_h t_orbit t_table) := hD
                                  refine lv_aload_n hx hb dX11_power_171 rfl (lv_at hl 0 rfl) ?_
                                  refine lv_iload hx hb dX11_power_172 (lv_at hl 3 rfl) ?_
                                  refine lv_iload hx hb dX11_power_174 (lv_at hl 5 rfl) ?_
                                  refine mc_iV ⟨hx, hb, hml, hown, hts⟩ hK hE hA hP hD hS (c_X11_by l G Y tF H.size h_t B_t t_thrown t_n t_modulus t_rows t_strands t_letters t_listedMany t_listN t_listWhat t_table x4 x6 h) (cwV 2 hts gX11_power_X11_by rfl rfl rfl (by decide +kernel) ⟨Nat.le_trans (by decide) hRf, Nat.le_trans (by decide) hRl⟩) (fun u => (w_X11_power Y h_t B_t t_thrown t_n t_modulus t_rows t_strands t_letters t_listedMany t_listN t_listWhat t_equations_158 t_h t_orbit t_table)) [0, 4] [1, 2, 3] [3, 0, 1, 2, 4] rfl rfl rfl rfl (by decide) (fun _ => rfl) rfl 0 10 rfl rfl rfl rfl hl.1 rfl (Nat.le_of_ble_eq_true rfl) dX11_power_176 (fun r176 u H locs h hP hD hS => ?_)
                                  try dsimp only at h
                                  have hP : va_P G vwCl (w_X11_power Y h_t B_t t_thrown t_n t_modulus t_rows t_strands t_letters t_listedMany t_listN t_listWhat t_equations_158 t_h t_orbit t_table) H := hP
                                  have hD : va_D A (w_X11_power Y h_t B_t t_thrown t_n t_modulus t_rows t_strands t_letters t_listedMany t_listN t_listWhat t_equations_158 t_h t_orbit t_table) := hD
                                  refine lv_iconst (v := -1) hx hb dX11_power_179 (by decide) ?_
                                  refine lv_iload_n hx hb dX11_power_180 rfl (lv_at hl 1 rfl) ?_
                                  refine mc_vV ⟨hx, hb, hml, hown, hts⟩ hK hE hA hP hD hS (c_X11_adds l G Y tF H.size h_t B_t t_thrown t_n t_modulus t_rows t_strands t_letters t_listedMany t_listN t_listWhat t_equations_158 x3 r168 r176 (-1 : Int32) x1 h) (cwV 5 hts gX11_power_X11_adds rfl rfl rfl (by decide +kernel) ⟨Nat.le_trans (by decide) hRf, Nat.le_trans (by decide) hRl⟩) (fun u => (w_X11_power Y h_t B_t t_thrown t_n t_modulus t_rows t_strands t_letters t_listedMany t_listN t_listWhat u t_h t_orbit t_table)) [0, 1] [2, 3, 4] [3, 4, 0, 1, 2] rfl rfl rfl rfl (by decide) (fun _ => rfl) rfl 0 10 rfl rfl rfl rfl hl.1 rfl (Nat.le_of_ble_eq_true rfl) dX11_power_181 (fun u H locs h hP hD hS => ?_)
                                  obtain ⟨t_equations_181, rfl⟩ : ∃ z, z = u := ⟨_, rfl⟩
                                  try dsimp only at h
                                  have hP : va_P G vwCl (w_X11_power Y h_t B_t t_thrown t_n t_modulus t_rows t_strands t_letters t_listedMany t_listN t_listWhat t_equations_181 t_h t_orbit t_table) H := hP
                                  have hD : va_D A (w_X11_power Y h_t B_t t_thrown t_n t_modulus t_rows t_strands t_letters t_listedMany t_listN t_listWhat t_equations_181 t_h t_orbit t_table) := hD
                                  refine lv_iinc (v := (x3 + 1)) (lv' := [(3, .int (x3 + 1)), (0, .ref h_t), (1, .int x1), (4, .int x4), (5, .int x5), (6, .int x6)]) hx hb dX11_power_184 hl (k := 2) rfl rfl (by decide) rfl (fun ls hl => ?_)
                                  refine lv_iinc (v := (x6 + 1)) (lv' := [(6, .int (x6 + 1)), (3, .int (x3 + 1)), (0, .ref h_t), (1, .int x1), (4, .int x4), (5, .int x5)]) hx hb dX11_power_187 hl (k := 5) rfl rfl (by decide) rfl (fun ls hl => ?_)
                                  refine lv_goto (tgt := 113) hx hb dX11_power_190 (by decide) ?_
                                  exact rec113 (x3 + 1) (x6 + 1) t_equations_181 H locs ls h hP hD hS (lv_sub hl [2, 3, 1, 4, 5, 0] rfl)
                            exact L113 x5 I113 m113 hB113 _ x3 (0 : Int32) t_equations H locs ls hI113 (Nat.lt_succ_self _) hP hD hS (lv_sub hl [1, 2, 3, 4, 5, 0] rfl)
                      exact L101 x4 I101 m101 hB101 _ x3 (0 : Int32) t_equations H locs ls hI101 (Nat.lt_succ_self _) hP hD hS (lv_sub hl [1, 2, 3, 4, 0] rfl)
                exact L89 x1 t_thrown t_h t_orbit I89 m89 hB89 _ (0 : Int32) (0 : Int32) t_equations H locs ls hI89 (Nat.lt_succ_self _) hP hD hS (lv_sub hl [2, 3, 1, 0] rfl)
              · have h := hf c9
                refine lv_aload_n hx hb dX11_power_71 rfl (lv_at hl 0 rfl) ?_
                refine va_get (D := G) (ci := 10) (v := .ref (B_t 19)) (C := RX11) (T := TX11) (N := 29) hx hb hts inX11 hown hK hP 0 rfl rfl 19 (by decide) hf65 (fun _ h9 => h9) rfl dX11_power_72 ?_
                refine lv_iload_n hx hb dX11_power_75 rfl (lv_at hl 2 rfl) ?_
                refine lv_iconst (v := 0) hx hb dX11_power_76 (by decide) ?_
                obtain ⟨hin, h⟩ := h
                refine va_iast hx hb hK hP hD hS 1 0 rfl rfl hin dX11_power_77 (fun H locs hP hD hS => ?_)
                have hP : va_P G vwCl (w_X11_power Y h_t B_t t_thrown t_n t_modulus t_rows t_strands t_letters t_listedMany t_listN t_listWhat (upd t_equations (Int32.toNatClampNeg x3) (0 : Int32)) t_h t_orbit t_table) H := hP
                have hD : va_D A (w_X11_power Y h_t B_t t_thrown t_n t_modulus t_rows t_strands t_letters t_listedMany t_listN t_listWhat (upd t_equations (Int32.toNatClampNeg x3) (0 : Int32)) t_h t_orbit t_table) := hD
                refine lv_iinc (v := (x3 + 1)) (lv' := [(3, .int (x3 + 1)), (0, .ref h_t), (1, .int x1)]) hx hb dX11_power_78 hl (k := 2) rfl rfl (by decide) rfl (fun ls hl => ?_)
                refine lv_goto (tgt := 62) hx hb dX11_power_81 (by decide) ?_
                exact rec62 (x3 + 1) (upd t_equations (Int32.toNatClampNeg x3) (0 : Int32)) H locs ls h hP hD hS (lv_sub hl [1, 2, 0] rfl)
          exact L62 x1 t_thrown t_h t_orbit I62 m62 hB62 _ (0 : Int32) t_equations H locs ls hI62 (Nat.lt_succ_self _) hP hD hS (lv_sub hl [1, 2, 0] rfl)
        · have h := hf c9
          refine lv_aload_n hx hb dX11_power_50 rfl (lv_at hl 0 rfl) ?_
          refine va_get (D := G) (ci := 10) (v := .int t_n) (C := RX11) (T := TX11) (N := 29) hx hb hts inX11 hown hK hP 0 rfl rfl 1 (by decide) hf9 (fun _ h9 => h9) rfl dX11_power_51 ?_
          refine lv_aload_n hx hb dX11_power_54 rfl (lv_at hl 0 rfl) ?_
          refine mc_iV ⟨hx, hb, hml, hown, hts⟩ hK hE hA hP hD hS (c_X11_findsOrbits l G Y tF H.size h_t B_t t_thrown t_n t_modulus t_rows t_strands t_letters t_listedMany t_listN t_listWhat t_h t_orbit t_table h) (cwV 0 hts gX11_power_X11_findsOrbits rfl rfl rfl (by decide +kernel) ⟨Nat.le_trans (by decide) hRf, Nat.le_trans (by decide) hRl⟩) (fun u => (w_X11_power Y h_t B_t t_thrown t_n t_modulus t_rows t_strands t_letters t_listedMany t_listN t_listWhat t_equations u.1 u.2 t_table)) [0, 2, 3, 4] [1] [1, 0, 2, 3, 4] rfl rfl rfl rfl (by decide) (fun _ => rfl) rfl 0 10 rfl rfl rfl rfl hl.1 rfl (Nat.le_of_ble_eq_true rfl) dX11_power_55 (fun r55 u H locs h hP hD hS => ?_)
          obtain ⟨t_h_55, t_orbit_55⟩ := u
          try dsimp only at h
          have hP : va_P G vwCl (w_X11_power Y h_t B_t t_thrown t_n t_modulus t_rows t_strands t_letters t_listedMany t_listN t_listWhat t_equations t_h_55 t_orbit_55 t_table) H := hP
          have hD : va_D A (w_X11_power Y h_t B_t t_thrown t_n t_modulus t_rows t_strands t_letters t_listedMany t_listN t_listWhat t_equations t_h_55 t_orbit_55 t_table) := hD
          refine lv_isub hx hb dX11_power_58 ?_
          exact hret (t_n - r55) t_thrown t_equations t_h_55 t_orbit_55 H locs ls _ hP hD hS h dX11_power_59
      · have h := hf c9
        refine lv_iconst (v := -1) hx hb dX11_power_43 (by decide) ?_
        exact hret (-1 : Int32) t_thrown t_equations t_h t_orbit H locs ls _ hP hD hS h dX11_power_44
  refine lv_aload_n hx hb dX11_power_0 rfl (lv_at hl 0 rfl) ?_
  refine lv_iconst (v := 0) hx hb dX11_power_1 (by decide) ?_
  refine va_put (D := G) (ci := 10) (v := .int (0 : Int32)) (ty := .int) (C := RX11) (T := TX11) (N := 29) hx hb hts inX11 tyX11 tyX11_ok nmX11 hown hK hP hD hS 0 rfl rfl 0 (by decide) hf83 (fun _ h9 => h9) rfl (by decide +kernel) rfl rfl (Nat.le_of_ble_eq_true rfl) dX11_power_2 (fun H locs hP hD hS => ?_)
  have hP : va_P G vwCl (w_X11_power Y h_t B_t (0 : Int32) t_n t_modulus t_rows t_strands t_letters t_listedMany t_listN t_listWhat t_equations t_h t_orbit t_table) H := hP
  have hD : va_D A (w_X11_power Y h_t B_t (0 : Int32) t_n t_modulus t_rows t_strands t_letters t_listedMany t_listN t_listWhat t_equations t_h t_orbit t_table) := hD
  refine lv_iload_n hx hb dX11_power_5 rfl (lv_at hl 1 rfl) ?_
  refine lv_iconst (v := 2) hx hb dX11_power_6 (by decide) ?_
  obtain ⟨ht, hf⟩ := h
  refine lv_icmp_eq (tgt := 26) hx hb dX11_power_7 (by decide) (fun c9 => ?_) (fun c9 => ?_)
  · have h := ht c9
    exact J26 x1 x2 (0 : Int32) t_equations t_h t_orbit H locs ls h hP hD hS (lv_sub hl [0, 1, 2] rfl)
  · have h := hf c9
    refine lv_iload_n hx hb dX11_power_10 rfl (lv_at hl 1 rfl) ?_
    refine lv_iconst (v := 3) hx hb dX11_power_11 (by decide) ?_
    obtain ⟨ht, hf⟩ := h
    refine lv_icmp_eq (tgt := 26) hx hb dX11_power_12 (by decide) (fun c9 => ?_) (fun c9 => ?_)
    · have h := ht c9
      exact J26 x1 x2 (0 : Int32) t_equations t_h t_orbit H locs ls h hP hD hS (lv_sub hl [0, 1, 2] rfl)
    · have h := hf c9
      refine lv_iload_n hx hb dX11_power_15 rfl (lv_at hl 1 rfl) ?_
      refine lv_iconst (v := 5) hx hb dX11_power_16 (by decide) ?_
      obtain ⟨ht, hf⟩ := h
      refine lv_icmp_eq (tgt := 26) hx hb dX11_power_17 (by decide) (fun c9 => ?_) (fun c9 => ?_)
      · have h := ht c9
        exact J26 x1 x2 (0 : Int32) t_equations t_h t_orbit H locs ls h hP hD hS (lv_sub hl [0, 1, 2] rfl)
      · have h := hf c9
        refine lv_iload_n hx hb dX11_power_20 rfl (lv_at hl 1 rfl) ?_
        refine lv_bipush (v := 7) hx hb dX11_power_21 (by decide) ?_
        obtain ⟨ht, hf⟩ := h
        refine lv_icmp_ne (tgt := 43) hx hb dX11_power_23 (by decide) (fun c9 => ?_) (fun c9 => ?_)
        · have h := ht c9
          refine lv_iconst (v := -1) hx hb dX11_power_43 (by decide) ?_
          exact hret (-1 : Int32) (0 : Int32) t_equations t_h t_orbit H locs ls _ hP hD hS h dX11_power_44
        · have h := hf c9
          exact J26 x1 x2 (0 : Int32) t_equations t_h t_orbit H locs ls h hP hD hS (lv_sub hl [0, 1, 2] rfl)

set_option maxHeartbeats 20000000 in
set_option maxRecDepth 100000 in
theorem c_X11_power (l : Launch) (G : va_G) (Y : Nat → ClassId) (tF sz : Nat) (h_t : Nat) (B_t : Nat → Nat) (t_thrown : Int32) (t_n : Int32) (t_modulus : Int32) (t_rows : Int32) (t_strands : Int32) (t_letters : Int32) (t_listedMany : Int32) (t_listN : Int32) (t_listWhat : Int32) (t_equations : Nat → Int32) (t_h : Nat → Int32) (t_orbit : Nat → Int32) (t_table : Nat → Int32) (x1 : Int32) (x2 : Int32) {K : Int32 → Int32 → (Nat → Int32) → (Nat → Int32) → (Nat → Int32) → Prop} (h : pX11_power t_thrown t_n t_equations t_h t_orbit t_table x1 x2 K) : Met l yX11_power wsX11_power ({ frames := 3, cells := 0, slots := 0, locals := 65 }) (PcM G Y tF sz (w_X11_power Y h_t B_t t_thrown t_n t_modulus t_rows t_strands t_letters t_listedMany t_listN t_listWhat t_equations t_h t_orbit t_table) [.ref h_t, .int x1, .int x2]) (va_Qi (fun (r : Int32) (u : Int32 × (Nat → Int32) × (Nat → Int32) × (Nat → Int32)) => K r u.1 u.2.1 u.2.2.1 u.2.2.2) (fun u t => BM G Y (va_A (w_X11_power Y h_t B_t t_thrown t_n t_modulus t_rows t_strands t_letters t_listedMany t_listN t_listWhat t_equations t_h t_orbit t_table) sz) (w_X11_power Y h_t B_t u.1 t_n t_modulus t_rows t_strands t_letters t_listedMany t_listN t_listWhat u.2.1 u.2.2.1 u.2.2.2 t_table) t) (va_A (w_X11_power Y h_t B_t t_thrown t_n t_modulus t_rows t_strands t_letters t_listedMany t_listN t_listWhat t_equations t_h t_orbit t_table) sz)) 0 0 (va_A (w_X11_power Y h_t B_t t_thrown t_n t_modulus t_rows t_strands t_letters t_listedMany t_listN t_listWhat t_equations t_h t_orbit t_table) sz) := by
  refine Met.ofW (cc := cX11_power) (maxL := 7) (ret := (some .int)) (by decide +kernel) rfl ?_
  intro p e s m args below meth c s₁ B hml hv
  obtain ⟨rfl, hsz, hP, hK, hD0, hE⟩ := hv
  have hts := atoms_spec (ws := wsX11_power) B.pre
  have hown : s.vm.findClass RX11 = some m.cls := findClass_of_methodNamed B.named
  have hlocks := B.notSynchronized
  subst hsz
  have hD := hD0.self (sz := s.heap.size)
  exact wk_X11_power h_t B_t t_thrown t_n t_modulus t_rows t_strands t_letters t_listedMany t_listN t_listWhat t_equations t_h t_orbit t_table x1 x2 B.exec B.bytes hml hown hts hK hE (fun q h => Or.inr h) (Nat.le_refl _) (Nat.le_refl _) (fun r t_thrown t_equations t_h t_orbit H locs ls pc hP hD hS hk hd => W.iret (v := r) B.exec B.bytes B.returns (fun t ht hW => ⟨⟨r, (t_thrown, t_equations, t_h, t_orbit), rfl, hk, by rw [ht]; exact hP, va_K.moved hW.alike hK, hD⟩, hS.F ht⟩) hS.2.2 hd) hP hD h
