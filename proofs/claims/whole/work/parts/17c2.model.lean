abbrev w_X11_modulus (Y : Nat → ClassId) (h_t : Nat) (B_t : Nat → Nat) (t_thrown : Int32) (t_n : Int32) (t_modulus : Int32) (t_rows : Int32) (t_strands : Int32) (t_letters : Int32) (t_listedMany : Int32) (t_listN : Int32) (t_listWhat : Int32) (t_twists : Nat → Int32) : va_W := [(h_t, .inr (10, [.int t_thrown, .int t_n, .ref (B_t 2), .int t_modulus, .ref (B_t 4), .ref (B_t 5), .ref (B_t 6), .ref (B_t 7), .ref (B_t 8), .ref (B_t 9), .ref (B_t 10), .int t_rows, .ref (B_t 12), .ref (B_t 13), .ref (B_t 14), .ref (B_t 15), .ref (B_t 16), .ref (B_t 17), .ref (B_t 18), .ref (B_t 19), .int t_strands, .int t_letters, .ref (B_t 22), .ref (B_t 23), .ref (B_t 24), .ref (B_t 25), .int t_listedMany, .int t_listN, .int t_listWhat])), ((B_t 4), .inl (Y 0, 64, .inl t_twists))]

set_option maxHeartbeats 20000000 in
set_option maxRecDepth 100000 in
theorem wk_X11_modulus {p : Program} {l : Launch} {e : Env} {R : Room} {s : State} {m : MethodId} {args : Array Value} {below : List Frame} {meth : Method} {c : Code} {Q : State → Prop} {G : va_G} {Y : Nat → ClassId} {tF : Nat} {A : Nat → Prop} (h_t : Nat) (B_t : Nat → Nat) (t_thrown : Int32) (t_n : Int32) (t_modulus : Int32) (t_rows : Int32) (t_strands : Int32) (t_letters : Int32) (t_listedMany : Int32) (t_listN : Int32) (t_listWhat : Int32) (t_twists : Nat → Int32) (x1 : Int32) {K : Int32 → Int32 → Int32 → (Nat → Int32) → Prop} (hx : p.tables.exec = Jvm.exec) (hb : c.code = cX11_modulus) (hml : c.maxLocals = 2) (hown : s.vm.findClass RX11 = some m.cls) (hts : ∀ w ∈ wsX11_modulus, w.before args s = true) (hK : va_K G vwCl (tyL Y) s) (hE : Ev A tF s) (hA : ∀ q, s.heap.size ≤ q → A q) (hRf : 1 ≤ R.frames) (hRl : 25 ≤ R.locals) (hret : ∀ (r : Int32) (t_thrown : Int32) (t_modulus : Int32) (t_twists : Nat → Int32) (H : Heap) (locs : List Loc) (ls : Array Slot) (pc : Nat), va_P G vwCl (w_X11_modulus Y h_t B_t t_thrown t_n t_modulus t_rows t_strands t_letters t_listedMany t_listN t_listWhat t_twists) H → va_D A (w_X11_modulus Y h_t B_t t_thrown t_n t_modulus t_rows t_strands t_letters t_listedMany t_listN t_listWhat t_twists) → va_S A s.heap H locs → zb r → K r t_thrown t_modulus t_twists → decode cX11_modulus pc = .ok (.ireturn, 1) → W p l e R s m args below meth c H locs 0 0 Q (F0 m pc ls [.int r])) (hP : va_P G vwCl (w_X11_modulus Y h_t B_t t_thrown t_n t_modulus t_rows t_strands t_letters t_listedMany t_listN t_listWhat t_twists) s.heap) (hD : va_D A (w_X11_modulus Y h_t B_t t_thrown t_n t_modulus t_rows t_strands t_letters t_listedMany t_listN t_listWhat t_twists)) (h : pX11_modulus t_thrown t_modulus t_twists x1 K) : W p l e R s m args below meth c s.heap [] 0 0 Q (entryFrame m ([.ref h_t, .int x1] : List Value).toArray 2) := by
  have inX11 : ∀ w ∈ u_ws RX11 TX11 29, w ∈ wsX11_modulus := by decide +kernel
  have hf17 := hts (.fieldLink RX11 17 "RackBenchModel" "modulus" "I") (by decide +kernel)
  have hf83 := hts (.fieldLink RX11 83 "RackBenchModel" "thrown" "I") (by decide +kernel)
  have hcL198 := hts (.constantLong RX11 198 (2)) (by decide +kernel)
  have hcL200 := hts (.constantLong RX11 200 (7)) (by decide +kernel)
  have hl := lv_entry ([.ref h_t, .int x1]) (n := 2) (Nat.le_of_ble_eq_true rfl)
  rw [lg_entry_eq]
  generalize (lg_sl ([.ref h_t, .int x1]) ++ List.replicate (2 - (lg_sl ([.ref h_t, .int x1])).length) Slot.unset).toArray = ls at hl ⊢
  have hl : lv_has ls 2 [(0, .ref h_t), (1, .int x1)] := hl
  generalize hH0 : s.heap = H at hP ⊢
  have hS : va_S A s.heap H [] := by rw [← hH0]; exact va_S.rf
  clear hH0
  generalize ([] : List Loc) = locs at hS ⊢
  refine lv_aload_n hx hb dX11_modulus_0 rfl (lv_at hl 0 rfl) ?_
  refine lv_iconst (v := 0) hx hb dX11_modulus_1 (by decide) ?_
  refine va_put (D := G) (ci := 10) (v := .int (0 : Int32)) (ty := .int) (C := RX11) (T := TX11) (N := 29) hx hb hts inX11 tyX11 tyX11_ok nmX11 hown hK hP hD hS 0 rfl rfl 0 (by decide) hf83 (fun _ h9 => h9) rfl (by decide +kernel) rfl rfl (Nat.le_of_ble_eq_true rfl) dX11_modulus_2 (fun H locs hP hD hS => ?_)
  have hP : va_P G vwCl (w_X11_modulus Y h_t B_t (0 : Int32) t_n t_modulus t_rows t_strands t_letters t_listedMany t_listN t_listWhat t_twists) H := hP
  have hD : va_D A (w_X11_modulus Y h_t B_t (0 : Int32) t_n t_modulus t_rows t_strands t_letters t_listedMany t_listN t_listWhat t_twists) := hD
  refine lv_iload_n hx hb dX11_modulus_5 rfl (lv_at hl 1 rfl) ?_
  refine lv_i2l hx hb dX11_modulus_6 rfl ?_
  refine lv_ldc2 (v := 2) hx hb hown hcL198 dX11_modulus_7 ?_
  refine lv_ldc2 (v := 7) hx hb hown hcL200 dX11_modulus_10 ?_
  refine mc_iS ⟨hx, hb, hml, hown, hts⟩ hK hE hA hP hD hS (c_X11_in l G Y tF H.size (Int32.toInt64 x1) (2 : Int64) (7 : Int64) h) (va_cwS 3 hts gX11_modulus_X11_in rfl rfl rfl (by decide +kernel) ⟨Nat.le_trans (by decide) hRf, Nat.le_trans (by decide) hRl⟩) (fun u => (w_X11_modulus Y h_t B_t (0 : Int32) t_n t_modulus t_rows t_strands t_letters t_listedMany t_listN t_listWhat t_twists)) [] [0, 1] [0, 1] rfl rfl rfl rfl (by decide) (fun _ => rfl) rfl rfl hl.1 rfl (Nat.le_of_ble_eq_true rfl) dX11_modulus_13 (fun r13 u H locs h hP hD hS => ?_)
  try dsimp only at h
  have hP : va_P G vwCl (w_X11_modulus Y h_t B_t (0 : Int32) t_n t_modulus t_rows t_strands t_letters t_listedMany t_listN t_listWhat t_twists) H := hP
  have hD : va_D A (w_X11_modulus Y h_t B_t (0 : Int32) t_n t_modulus t_rows t_strands t_letters t_listedMany t_listN t_listWhat t_twists) := hD
  obtain ⟨ht, hf⟩ := h
  refine lv_if_ne (tgt := 21) hx hb dX11_modulus_16 (by decide) (fun c9 => ?_) (fun c9 => ?_)
  · have h := ht c9
    refine lv_aload_n hx hb dX11_modulus_21 rfl (lv_at hl 0 rfl) ?_
    refine lv_iload_n hx hb dX11_modulus_22 rfl (lv_at hl 1 rfl) ?_
    refine va_put (D := G) (ci := 10) (v := .int x1) (ty := .int) (C := RX11) (T := TX11) (N := 29) hx hb hts inX11 tyX11 tyX11_ok nmX11 hown hK hP hD hS 0 rfl rfl 3 (by decide) hf17 (fun _ h9 => h9) rfl (by decide +kernel) rfl rfl (Nat.le_of_ble_eq_true rfl) dX11_modulus_23 (fun H locs hP hD hS => ?_)
    have hP : va_P G vwCl (w_X11_modulus Y h_t B_t (0 : Int32) t_n x1 t_rows t_strands t_letters t_listedMany t_listN t_listWhat t_twists) H := hP
    have hD : va_D A (w_X11_modulus Y h_t B_t (0 : Int32) t_n x1 t_rows t_strands t_letters t_listedMany t_listN t_listWhat t_twists) := hD
    refine lv_aload_n hx hb dX11_modulus_26 rfl (lv_at hl 0 rfl) ?_
    refine mc_vV ⟨hx, hb, hml, hown, hts⟩ hK hE hA hP hD hS (c_X11_straight l G Y tF H.size h_t B_t (0 : Int32) t_n x1 t_rows t_strands t_letters t_listedMany t_listN t_listWhat t_twists h) (cwV 0 hts gX11_modulus_X11_straight rfl rfl rfl (by decide +kernel) ⟨Nat.le_trans (by decide) hRf, Nat.le_trans (by decide) hRl⟩) (fun u => (w_X11_modulus Y h_t B_t (0 : Int32) t_n x1 t_rows t_strands t_letters t_listedMany t_listN t_listWhat u)) [0, 1] [] [0, 1] rfl rfl rfl rfl (by decide) (fun _ => rfl) rfl 0 10 rfl rfl rfl rfl hl.1 rfl (Nat.le_of_ble_eq_true rfl) dX11_modulus_27 (fun u H locs h hP hD hS => ?_)
    obtain ⟨t_twists_27, rfl⟩ : ∃ z, z = u := ⟨_, rfl⟩
    try dsimp only at h
    have hP : va_P G vwCl (w_X11_modulus Y h_t B_t (0 : Int32) t_n x1 t_rows t_strands t_letters t_listedMany t_listN t_listWhat t_twists_27) H := hP
    have hD : va_D A (w_X11_modulus Y h_t B_t (0 : Int32) t_n x1 t_rows t_strands t_letters t_listedMany t_listN t_listWhat t_twists_27) := hD
    refine lv_iconst (v := 1) hx hb dX11_modulus_30 (by decide) ?_
    obtain ⟨hz, h⟩ := h
    exact hret (1 : Int32) (0 : Int32) x1 t_twists_27 H locs ls _ hP hD hS hz h dX11_modulus_31
  · have h := hf c9
    refine lv_iconst (v := 0) hx hb dX11_modulus_19 (by decide) ?_
    obtain ⟨hz, h⟩ := h
    exact hret (0 : Int32) (0 : Int32) t_modulus t_twists H locs ls _ hP hD hS hz h dX11_modulus_20

set_option maxHeartbeats 20000000 in
set_option maxRecDepth 100000 in
theorem c_X11_modulus (l : Launch) (G : va_G) (Y : Nat → ClassId) (tF sz : Nat) (h_t : Nat) (B_t : Nat → Nat) (t_thrown : Int32) (t_n : Int32) (t_modulus : Int32) (t_rows : Int32) (t_strands : Int32) (t_letters : Int32) (t_listedMany : Int32) (t_listN : Int32) (t_listWhat : Int32) (t_twists : Nat → Int32) (x1 : Int32) {K : Int32 → Int32 → Int32 → (Nat → Int32) → Prop} (h : pX11_modulus t_thrown t_modulus t_twists x1 K) : Met l yX11_modulus wsX11_modulus ({ frames := 1, cells := 0, slots := 0, locals := 25 }) (PcM G Y tF sz (w_X11_modulus Y h_t B_t t_thrown t_n t_modulus t_rows t_strands t_letters t_listedMany t_listN t_listWhat t_twists) [.ref h_t, .int x1]) (va_Qi (fun (r : Int32) (u : Int32 × Int32 × (Nat → Int32)) => K r u.1 u.2.1 u.2.2) (fun u t => BM G Y (va_A (w_X11_modulus Y h_t B_t t_thrown t_n t_modulus t_rows t_strands t_letters t_listedMany t_listN t_listWhat t_twists) sz) (w_X11_modulus Y h_t B_t u.1 t_n u.2.1 t_rows t_strands t_letters t_listedMany t_listN t_listWhat u.2.2) t) (va_A (w_X11_modulus Y h_t B_t t_thrown t_n t_modulus t_rows t_strands t_letters t_listedMany t_listN t_listWhat t_twists) sz)) 0 0 (va_A (w_X11_modulus Y h_t B_t t_thrown t_n t_modulus t_rows t_strands t_letters t_listedMany t_listN t_listWhat t_twists) sz) := by
  refine Met.ofW (cc := cX11_modulus) (maxL := 2) (ret := (some .boolean)) (by decide +kernel) rfl ?_
  intro p e s m args below meth c s₁ B hml hv
  obtain ⟨rfl, hsz, hP, hK, hD0, hE⟩ := hv
  have hts := atoms_spec (ws := wsX11_modulus) B.pre
  have hown : s.vm.findClass RX11 = some m.cls := findClass_of_methodNamed B.named
  have hlocks := B.notSynchronized
  subst hsz
  have hD := hD0.self (sz := s.heap.size)
  exact wk_X11_modulus h_t B_t t_thrown t_n t_modulus t_rows t_strands t_letters t_listedMany t_listN t_listWhat t_twists x1 B.exec B.bytes hml hown hts hK hE (fun q h => Or.inr h) (Nat.le_refl _) (Nat.le_refl _) (fun r t_thrown t_modulus t_twists H locs ls pc hP hD hS hz hk hd => W.zret (v := r) B.exec B.bytes B.returns hz.n (fun t ht hW => ⟨⟨r, (t_thrown, t_modulus, t_twists), rfl, hk, by rw [ht]; exact hP, va_K.moved hW.alike hK, hD⟩, hS.F ht⟩) hS.2.2 hd) hP hD h

abbrev w_X11_twist (Y : Nat → ClassId) (h_t : Nat) (B_t : Nat → Nat) (t_thrown : Int32) (t_n : Int32) (t_modulus : Int32) (t_rows : Int32) (t_strands : Int32) (t_letters : Int32) (t_listedMany : Int32) (t_listN : Int32) (t_listWhat : Int32) (t_twists : Nat → Int32) : va_W := [(h_t, .inr (10, [.int t_thrown, .int t_n, .ref (B_t 2), .int t_modulus, .ref (B_t 4), .ref (B_t 5), .ref (B_t 6), .ref (B_t 7), .ref (B_t 8), .ref (B_t 9), .ref (B_t 10), .int t_rows, .ref (B_t 12), .ref (B_t 13), .ref (B_t 14), .ref (B_t 15), .ref (B_t 16), .ref (B_t 17), .ref (B_t 18), .ref (B_t 19), .int t_strands, .int t_letters, .ref (B_t 22), .ref (B_t 23), .ref (B_t 24), .ref (B_t 25), .int t_listedMany, .int t_listN, .int t_listWhat])), ((B_t 4), .inl (Y 0, 64, .inl t_twists))]

set_option maxHeartbeats 20000000 in
set_option maxRecDepth 100000 in
theorem wk_X11_twist {p : Program} {l : Launch} {e : Env} {R : Room} {s : State} {m : MethodId} {args : Array Value} {below : List Frame} {meth : Method} {c : Code} {Q : State → Prop} {G : va_G} {Y : Nat → ClassId} {tF : Nat} {A : Nat → Prop} (h_t : Nat) (B_t : Nat → Nat) (t_thrown : Int32) (t_n : Int32) (t_modulus : Int32) (t_rows : Int32) (t_strands : Int32) (t_letters : Int32) (t_listedMany : Int32) (t_listN : Int32) (t_listWhat : Int32) (t_twists : Nat → Int32) (x1 : Int32) (x2 : Int32) (x3 : Int32) {K : Int32 → Int32 → (Nat → Int32) → Prop} (hx : p.tables.exec = Jvm.exec) (hb : c.code = cX11_twist) (hml : c.maxLocals = 4) (hown : s.vm.findClass RX11 = some m.cls) (hts : ∀ w ∈ wsX11_twist, w.before args s = true) (hK : va_K G vwCl (tyL Y) s) (hE : Ev A tF s) (hA : ∀ q, s.heap.size ≤ q → A q) (hRf : 2 ≤ R.frames) (hRl : 46 ≤ R.locals) (hret : ∀ (r : Int32) (t_thrown : Int32) (t_twists : Nat → Int32) (H : Heap) (locs : List Loc) (ls : Array Slot) (pc : Nat), va_P G vwCl (w_X11_twist Y h_t B_t t_thrown t_n t_modulus t_rows t_strands t_letters t_listedMany t_listN t_listWhat t_twists) H → va_D A (w_X11_twist Y h_t B_t t_thrown t_n t_modulus t_rows t_strands t_letters t_listedMany t_listN t_listWhat t_twists) → va_S A s.heap H locs → zb r → K r t_thrown t_twists → decode cX11_twist pc = .ok (.ireturn, 1) → W p l e R s m args below meth c H locs 0 0 Q (F0 m pc ls [.int r])) (hP : va_P G vwCl (w_X11_twist Y h_t B_t t_thrown t_n t_modulus t_rows t_strands t_letters t_listedMany t_listN t_listWhat t_twists) s.heap) (hD : va_D A (w_X11_twist Y h_t B_t t_thrown t_n t_modulus t_rows t_strands t_letters t_listedMany t_listN t_listWhat t_twists)) (h : pX11_twist t_thrown t_n t_modulus t_twists x1 x2 x3 K) : W p l e R s m args below meth c s.heap [] 0 0 Q (entryFrame m ([.ref h_t, .int x1, .int x2, .int x3] : List Value).toArray 4) := by
  have inX11 : ∀ w ∈ u_ws RX11 TX11 29, w ∈ wsX11_twist := by decide +kernel
  have hf17 := hts (.fieldLink RX11 17 "RackBenchModel" "modulus" "I") (by decide +kernel)
  have hf20 := hts (.fieldLink RX11 20 "RackBenchModel" "twists" "[I") (by decide +kernel)
  have hf83 := hts (.fieldLink RX11 83 "RackBenchModel" "thrown" "I") (by decide +kernel)
  have hl := lv_entry ([.ref h_t, .int x1, .int x2, .int x3]) (n := 4) (Nat.le_of_ble_eq_true rfl)
  rw [lg_entry_eq]
  generalize (lg_sl ([.ref h_t, .int x1, .int x2, .int x3]) ++ List.replicate (4 - (lg_sl ([.ref h_t, .int x1, .int x2, .int x3])).length) Slot.unset).toArray = ls at hl ⊢
  have hl : lv_has ls 4 [(0, .ref h_t), (1, .int x1), (2, .int x2), (3, .int x3)] := hl
  generalize hH0 : s.heap = H at hP ⊢
  have hS : va_S A s.heap H [] := by rw [← hH0]; exact va_S.rf
  clear hH0
  generalize ([] : List Loc) = locs at hS ⊢
  refine lv_aload_n hx hb dX11_twist_0 rfl (lv_at hl 0 rfl) ?_
  refine lv_iconst (v := 0) hx hb dX11_twist_1 (by decide) ?_
  refine va_put (D := G) (ci := 10) (v := .int (0 : Int32)) (ty := .int) (C := RX11) (T := TX11) (N := 29) hx hb hts inX11 tyX11 tyX11_ok nmX11 hown hK hP hD hS 0 rfl rfl 0 (by decide) hf83 (fun _ h9 => h9) rfl (by decide +kernel) rfl rfl (Nat.le_of_ble_eq_true rfl) dX11_twist_2 (fun H locs hP hD hS => ?_)
  have hP : va_P G vwCl (w_X11_twist Y h_t B_t (0 : Int32) t_n t_modulus t_rows t_strands t_letters t_listedMany t_listN t_listWhat t_twists) H := hP
  have hD : va_D A (w_X11_twist Y h_t B_t (0 : Int32) t_n t_modulus t_rows t_strands t_letters t_listedMany t_listN t_listWhat t_twists) := hD
  refine lv_aload_n hx hb dX11_twist_5 rfl (lv_at hl 0 rfl) ?_
  refine lv_iload_n hx hb dX11_twist_6 rfl (lv_at hl 1 rfl) ?_
  refine mc_iV ⟨hx, hb, hml, hown, hts⟩ hK hE hA hP hD hS (c_X11_isThing l G Y tF H.size h_t B_t (0 : Int32) t_n t_modulus t_rows t_strands t_letters t_listedMany t_listN t_listWhat x1 h) (cwV 1 hts gX11_twist_X11_isThing rfl rfl rfl (by decide +kernel) ⟨Nat.le_trans (by decide) hRf, Nat.le_trans (by decide) hRl⟩) (fun u => (w_X11_twist Y h_t B_t (0 : Int32) t_n t_modulus t_rows t_strands t_letters t_listedMany t_listN t_listWhat t_twists)) [0] [1] [1, 0] rfl rfl rfl rfl (by decide) (fun _ => rfl) rfl 0 10 rfl rfl rfl rfl hl.1 rfl (Nat.le_of_ble_eq_true rfl) dX11_twist_7 (fun r7 u H locs h hP hD hS => ?_)
  try dsimp only at h
  have hP : va_P G vwCl (w_X11_twist Y h_t B_t (0 : Int32) t_n t_modulus t_rows t_strands t_letters t_listedMany t_listN t_listWhat t_twists) H := hP
  have hD : va_D A (w_X11_twist Y h_t B_t (0 : Int32) t_n t_modulus t_rows t_strands t_letters t_listedMany t_listN t_listWhat t_twists) := hD
  obtain ⟨ht, hf⟩ := h
  refine lv_if_eq (tgt := 37) hx hb dX11_twist_10 (by decide) (fun c9 => ?_) (fun c9 => ?_)
  · have h := ht c9
    refine lv_iconst (v := 0) hx hb dX11_twist_37 (by decide) ?_
    obtain ⟨hz, h⟩ := h
    exact hret (0 : Int32) (0 : Int32) t_twists H locs ls _ hP hD hS hz h dX11_twist_38
  · have h := hf c9
    refine lv_aload_n hx hb dX11_twist_13 rfl (lv_at hl 0 rfl) ?_
    refine lv_iload_n hx hb dX11_twist_14 rfl (lv_at hl 2 rfl) ?_
    refine mc_iV ⟨hx, hb, hml, hown, hts⟩ hK hE hA hP hD hS (c_X11_isThing l G Y tF H.size h_t B_t (0 : Int32) t_n t_modulus t_rows t_strands t_letters t_listedMany t_listN t_listWhat x2 h) (cwV 1 hts gX11_twist_X11_isThing rfl rfl rfl (by decide +kernel) ⟨Nat.le_trans (by decide) hRf, Nat.le_trans (by decide) hRl⟩) (fun u => (w_X11_twist Y h_t B_t (0 : Int32) t_n t_modulus t_rows t_strands t_letters t_listedMany t_listN t_listWhat t_twists)) [0] [1] [1, 0] rfl rfl rfl rfl (by decide) (fun _ => rfl) rfl 0 10 rfl rfl rfl rfl hl.1 rfl (Nat.le_of_ble_eq_true rfl) dX11_twist_15 (fun r15 u H locs h hP hD hS => ?_)
    try dsimp only at h
    have hP : va_P G vwCl (w_X11_twist Y h_t B_t (0 : Int32) t_n t_modulus t_rows t_strands t_letters t_listedMany t_listN t_listWhat t_twists) H := hP
    have hD : va_D A (w_X11_twist Y h_t B_t (0 : Int32) t_n t_modulus t_rows t_strands t_letters t_listedMany t_listN t_listWhat t_twists) := hD
    obtain ⟨ht, hf⟩ := h
    refine lv_if_eq (tgt := 37) hx hb dX11_twist_18 (by decide) (fun c9 => ?_) (fun c9 => ?_)
    · have h := ht c9
      refine lv_iconst (v := 0) hx hb dX11_twist_37 (by decide) ?_
      obtain ⟨hz, h⟩ := h
      exact hret (0 : Int32) (0 : Int32) t_twists H locs ls _ hP hD hS hz h dX11_twist_38
    · have h := hf c9
      refine lv_iload_n hx hb dX11_twist_21 rfl (lv_at hl 3 rfl) ?_
      refine lv_i2l hx hb dX11_twist_22 rfl ?_
      refine lv_lconst (v := 0) hx hb dX11_twist_23 (by decide) ?_
      refine lv_aload_n hx hb dX11_twist_24 rfl (lv_at hl 0 rfl) ?_
      refine va_get (D := G) (ci := 10) (v := .int t_modulus) (C := RX11) (T := TX11) (N := 29) hx hb hts inX11 hown hK hP 0 rfl rfl 3 (by decide) hf17 (fun _ h9 => h9) rfl dX11_twist_25 ?_
      refine lv_iconst (v := 1) hx hb dX11_twist_28 (by decide) ?_
      refine lv_isub hx hb dX11_twist_29 ?_
      refine lv_i2l hx hb dX11_twist_30 rfl ?_
      refine mc_iS ⟨hx, hb, hml, hown, hts⟩ hK hE hA hP hD hS (c_X11_in l G Y tF H.size (Int32.toInt64 x3) (0 : Int64) (Int32.toInt64 (t_modulus - (1 : Int32))) h) (va_cwS 3 hts gX11_twist_X11_in rfl rfl rfl (by decide +kernel) ⟨Nat.le_trans (by decide) hRf, Nat.le_trans (by decide) hRl⟩) (fun u => (w_X11_twist Y h_t B_t (0 : Int32) t_n t_modulus t_rows t_strands t_letters t_listedMany t_listN t_listWhat t_twists)) [] [0, 1] [0, 1] rfl rfl rfl rfl (by decide) (fun _ => rfl) rfl rfl hl.1 rfl (Nat.le_of_ble_eq_true rfl) dX11_twist_31 (fun r31 u H locs h hP hD hS => ?_)
      try dsimp only at h
      have hP : va_P G vwCl (w_X11_twist Y h_t B_t (0 : Int32) t_n t_modulus t_rows t_strands t_letters t_listedMany t_listN t_listWhat t_twists) H := hP
      have hD : va_D A (w_X11_twist Y h_t B_t (0 : Int32) t_n t_modulus t_rows t_strands t_letters t_listedMany t_listN t_listWhat t_twists) := hD
      obtain ⟨ht, hf⟩ := h
      refine lv_if_ne (tgt := 39) hx hb dX11_twist_34 (by decide) (fun c9 => ?_) (fun c9 => ?_)
      · have h := ht c9
        refine lv_aload_n hx hb dX11_twist_39 rfl (lv_at hl 0 rfl) ?_
        refine va_get (D := G) (ci := 10) (v := .ref (B_t 4)) (C := RX11) (T := TX11) (N := 29) hx hb hts inX11 hown hK hP 0 rfl rfl 4 (by decide) hf20 (fun _ h9 => h9) rfl dX11_twist_40 ?_
        refine lv_bipush (v := 8) hx hb dX11_twist_43 (by decide) ?_
        refine lv_iload_n hx hb dX11_twist_45 rfl (lv_at hl 1 rfl) ?_
        refine lv_imul hx hb dX11_twist_46 ?_
        refine lv_iload_n hx hb dX11_twist_47 rfl (lv_at hl 2 rfl) ?_
        refine lv_iadd hx hb dX11_twist_48 ?_
        refine lv_iload_n hx hb dX11_twist_49 rfl (lv_at hl 3 rfl) ?_
        obtain ⟨hin, h⟩ := h
        refine va_iast hx hb hK hP hD hS 1 0 rfl rfl hin dX11_twist_50 (fun H locs hP hD hS => ?_)
        have hP : va_P G vwCl (w_X11_twist Y h_t B_t (0 : Int32) t_n t_modulus t_rows t_strands t_letters t_listedMany t_listN t_listWhat (upd t_twists (Int32.toNatClampNeg (((8 : Int32) * x1) + x2)) x3)) H := hP
        have hD : va_D A (w_X11_twist Y h_t B_t (0 : Int32) t_n t_modulus t_rows t_strands t_letters t_listedMany t_listN t_listWhat (upd t_twists (Int32.toNatClampNeg (((8 : Int32) * x1) + x2)) x3)) := hD
        refine lv_iconst (v := 1) hx hb dX11_twist_51 (by decide) ?_
        obtain ⟨hz, h⟩ := h
        exact hret (1 : Int32) (0 : Int32) (upd t_twists (Int32.toNatClampNeg (((8 : Int32) * x1) + x2)) x3) H locs ls _ hP hD hS hz h dX11_twist_52
      · have h := hf c9
        refine lv_iconst (v := 0) hx hb dX11_twist_37 (by decide) ?_
        obtain ⟨hz, h⟩ := h
        exact hret (0 : Int32) (0 : Int32) t_twists H locs ls _ hP hD hS hz h dX11_twist_38

set_option maxHeartbeats 20000000 in
set_option maxRecDepth 100000 in
theorem c_X11_twist (l : Launch) (G : va_G) (Y : Nat → ClassId) (tF sz : Nat) (h_t : Nat) (B_t : Nat → Nat) (t_thrown : Int32) (t_n : Int32) (t_modulus : Int32) (t_rows : Int32) (t_strands : Int32) (t_letters : Int32) (t_listedMany : Int32) (t_listN : Int32) (t_listWhat : Int32) (t_twists : Nat → Int32) (x1 : Int32) (x2 : Int32) (x3 : Int32) {K : Int32 → Int32 → (Nat → Int32) → Prop} (h : pX11_twist t_thrown t_n t_modulus t_twists x1 x2 x3 K) : Met l yX11_twist wsX11_twist ({ frames := 2, cells := 0, slots := 0, locals := 46 }) (PcM G Y tF sz (w_X11_twist Y h_t B_t t_thrown t_n t_modulus t_rows t_strands t_letters t_listedMany t_listN t_listWhat t_twists) [.ref h_t, .int x1, .int x2, .int x3]) (va_Qi (fun (r : Int32) (u : Int32 × (Nat → Int32)) => K r u.1 u.2) (fun u t => BM G Y (va_A (w_X11_twist Y h_t B_t t_thrown t_n t_modulus t_rows t_strands t_letters t_listedMany t_listN t_listWhat t_twists) sz) (w_X11_twist Y h_t B_t u.1 t_n t_modulus t_rows t_strands t_letters t_listedMany t_listN t_listWhat u.2) t) (va_A (w_X11_twist Y h_t B_t t_thrown t_n t_modulus t_rows t_strands t_letters t_listedMany t_listN t_listWhat t_twists) sz)) 0 0 (va_A (w_X11_twist Y h_t B_t t_thrown t_n t_modulus t_rows t_strands t_letters t_listedMany t_listN t_listWhat t_twists) sz) := by
  refine Met.ofW (cc := cX11_twist) (maxL := 4) (ret := (some .boolean)) (by decide +kernel) rfl ?_
  intro p e s m args below meth c s₁ B hml hv
  obtain ⟨rfl, hsz, hP, hK, hD0, hE⟩ := hv
  have hts := atoms_spec (ws := wsX11_twist) B.pre
  have hown : s.vm.findClass RX11 = some m.cls := findClass_of_methodNamed B.named
  have hlocks := B.notSynchronized
  subst hsz
  have hD := hD0.self (sz := s.heap.size)
  exact wk_X11_twist h_t B_t t_thrown t_n t_modulus t_rows t_strands t_letters t_listedMany t_listN t_listWhat t_twists x1 x2 x3 B.exec B.bytes hml hown hts hK hE (fun q h => Or.inr h) (Nat.le_refl _) (Nat.le_refl _) (fun r t_thrown t_twists H locs ls pc hP hD hS hz hk hd => W.zret (v := r) B.exec B.bytes B.returns hz.n (fun t ht hW => ⟨⟨r, (t_thrown, t_twists), rfl, hk, by rw [ht]; exact hP, va_K.moved hW.alike hK, hD⟩, hS.F ht⟩) hS.2.2 hd) hP hD h

abbrev w_X11_twistOf (Y : Nat → ClassId) (h_t : Nat) (B_t : Nat → Nat) (t_thrown : Int32) (t_n : Int32) (t_modulus : Int32) (t_rows : Int32) (t_strands : Int32) (t_letters : Int32) (t_listedMany : Int32) (t_listN : Int32) (t_listWhat : Int32) (t_twists : Nat → Int32) : va_W := [(h_t, .inr (10, [.int t_thrown, .int t_n, .ref (B_t 2), .int t_modulus, .ref (B_t 4), .ref (B_t 5), .ref (B_t 6), .ref (B_t 7), .ref (B_t 8), .ref (B_t 9), .ref (B_t 10), .int t_rows, .ref (B_t 12), .ref (B_t 13), .ref (B_t 14), .ref (B_t 15), .ref (B_t 16), .ref (B_t 17), .ref (B_t 18), .ref (B_t 19), .int t_strands, .int t_letters, .ref (B_t 22), .ref (B_t 23), .ref (B_t 24), .ref (B_t 25), .int t_listedMany, .int t_listN, .int t_listWhat])), ((B_t 4), .inl (Y 0, 64, .inl t_twists))]

set_option maxHeartbeats 20000000 in
set_option maxRecDepth 100000 in
theorem wk_X11_twistOf {p : Program} {l : Launch} {e : Env} {R : Room} {s : State} {m : MethodId} {args : Array Value} {below : List Frame} {meth : Method} {c : Code} {Q : State → Prop} {G : va_G} {Y : Nat → ClassId} {tF : Nat} {A : Nat → Prop} (h_t : Nat) (B_t : Nat → Nat) (t_thrown : Int32) (t_n : Int32) (t_modulus : Int32) (t_rows : Int32) (t_strands : Int32) (t_letters : Int32) (t_listedMany : Int32) (t_listN : Int32) (t_listWhat : Int32) (t_twists : Nat → Int32) (x1 : Int32) (x2 : Int32) {K : Int32 → Prop} (hx : p.tables.exec = Jvm.exec) (hb : c.code = cX11_twistOf) (hml : c.maxLocals = 3) (hown : s.vm.findClass RX11 = some m.cls) (hts : ∀ w ∈ wsX11_twistOf, w.before args s = true) (hK : va_K G vwCl (tyL Y) s) (hE : Ev A tF s) (hA : ∀ q, s.heap.size ≤ q → A q) (hRf : 0 ≤ R.frames) (hRl : 0 ≤ R.locals) (hret : ∀ (r : Int32)  (H : Heap) (locs : List Loc) (ls : Array Slot) (pc : Nat), va_P G vwCl (w_X11_twistOf Y h_t B_t t_thrown t_n t_modulus t_rows t_strands t_letters t_listedMany t_listN t_listWhat t_twists) H → va_D A (w_X11_twistOf Y h_t B_t t_thrown t_n t_modulus t_rows t_strands t_letters t_listedMany t_listN t_listWhat t_twists) → va_S A s.heap H locs → K r → decode cX11_twistOf pc = .ok (.ireturn, 1) → W p l e R s m args below meth c H locs 0 0 Q (F0 m pc ls [.int r])) (hP : va_P G vwCl (w_X11_twistOf Y h_t B_t t_thrown t_n t_modulus t_rows t_strands t_letters t_listedMany t_listN t_listWhat t_twists) s.heap) (hD : va_D A (w_X11_twistOf Y h_t B_t t_thrown t_n t_modulus t_rows t_strands t_letters t_listedMany t_listN t_listWhat t_twists)) (h : pX11_twistOf t_twists x1 x2 K) : W p l e R s m args below meth c s.heap [] 0 0 Q (entryFrame m ([.ref h_t, .int x1, .int x2] : List Value).toArray 3) := by
  have inX11 : ∀ w ∈ u_ws RX11 TX11 29, w ∈ wsX11_twistOf := by decide +kernel
  have hf20 := hts (.fieldLink RX11 20 "RackBenchModel" "twists" "[I") (by decide +kernel)
  have hl := lv_entry ([.ref h_t, .int x1, .int x2]) (n := 3) (Nat.le_of_ble_eq_true rfl)
  rw [lg_entry_eq]
  generalize (lg_sl ([.ref h_t, .int x1, .int x2]) ++ List.replicate (3 - (lg_sl ([.ref h_t, .int x1, .int x2])).length) Slot.unset).toArray = ls at hl ⊢
  have hl : lv_has ls 3 [(0, .ref h_t), (1, .int x1), (2, .int x2)] := hl
  generalize hH0 : s.heap = H at hP ⊢
  have hS : va_S A s.heap H [] := by rw [← hH0]; exact va_S.rf
  clear hH0
  generalize ([] : List Loc) = locs at hS ⊢
  refine lv_aload_n hx hb dX11_twistOf_0 rfl (lv_at hl 0 rfl) ?_
  refine va_get (D := G) (ci := 10) (v := .ref (B_t 4)) (C := RX11) (T := TX11) (N := 29) hx hb hts inX11 hown hK hP 0 rfl rfl 4 (by decide) hf20 (fun _ h9 => h9) rfl dX11_twistOf_1 ?_
  refine lv_bipush (v := 8) hx hb dX11_twistOf_4 (by decide) ?_
  refine lv_iload_n hx hb dX11_twistOf_6 rfl (lv_at hl 1 rfl) ?_
  refine lv_imul hx hb dX11_twistOf_7 ?_
  refine lv_iload_n hx hb dX11_twistOf_8 rfl (lv_at hl 2 rfl) ?_
  refine lv_iadd hx hb dX11_twistOf_9 ?_
  obtain ⟨hin, h⟩ := h
  refine va_iald hx hb hK hP 1 0 rfl rfl hin dX11_twistOf_10 ?_
  exact hret (t_twists (Int32.toNatClampNeg (((8 : Int32) * x1) + x2)))  H locs ls _ hP hD hS h dX11_twistOf_11

set_option maxHeartbeats 20000000 in
set_option maxRecDepth 100000 in
theorem c_X11_twistOf (l : Launch) (G : va_G) (Y : Nat → ClassId) (tF sz : Nat) (h_t : Nat) (B_t : Nat → Nat) (t_thrown : Int32) (t_n : Int32) (t_modulus : Int32) (t_rows : Int32) (t_strands : Int32) (t_letters : Int32) (t_listedMany : Int32) (t_listN : Int32) (t_listWhat : Int32) (t_twists : Nat → Int32) (x1 : Int32) (x2 : Int32) {K : Int32 → Prop} (h : pX11_twistOf t_twists x1 x2 K) : Met l yX11_twistOf wsX11_twistOf ({ frames := 0, cells := 0, slots := 0, locals := 0 }) (PcM G Y tF sz (w_X11_twistOf Y h_t B_t t_thrown t_n t_modulus t_rows t_strands t_letters t_listedMany t_listN t_listWhat t_twists) [.ref h_t, .int x1, .int x2]) (va_Qi (fun (r : Int32) (u : Unit) => K r ) (fun u t => BM G Y (va_A (w_X11_twistOf Y h_t B_t t_thrown t_n t_modulus t_rows t_strands t_letters t_listedMany t_listN t_listWhat t_twists) sz) (w_X11_twistOf Y h_t B_t t_thrown t_n t_modulus t_rows t_strands t_letters t_listedMany t_listN t_listWhat t_twists) t) (va_A (w_X11_twistOf Y h_t B_t t_thrown t_n t_modulus t_rows t_strands t_letters t_listedMany t_listN t_listWhat t_twists) sz)) 0 0 (va_A (w_X11_twistOf Y h_t B_t t_thrown t_n t_modulus t_rows t_strands t_letters t_listedMany t_listN t_listWhat t_twists) sz) := by
  refine Met.ofW (cc := cX11_twistOf) (maxL := 3) (ret := (some .int)) (by decide +kernel) rfl ?_
  intro p e s m args below meth c s₁ B hml hv
  obtain ⟨rfl, hsz, hP, hK, hD0, hE⟩ := hv
  have hts := atoms_spec (ws := wsX11_twistOf) B.pre
  have hown : s.vm.findClass RX11 = some m.cls := findClass_of_methodNamed B.named
  have hlocks := B.notSynchronized
  subst hsz
  have hD := hD0.self (sz := s.heap.size)
  exact wk_X11_twistOf h_t B_t t_thrown t_n t_modulus t_rows t_strands t_letters t_listedMany t_listN t_listWhat t_twists x1 x2 B.exec B.bytes hml hown hts hK hE (fun q h => Or.inr h) (Nat.le_refl _) (Nat.le_refl _) (fun r  H locs ls pc hP hD hS hk hd => W.iret (v := r) B.exec B.bytes B.returns (fun t ht hW => ⟨⟨r, (), rfl, hk, by rw [ht]; exact hP, va_K.moved hW.alike hK, hD⟩, hS.F ht⟩) hS.2.2 hd) hP hD h

abbrev w_X11_twisted (Y : Nat → ClassId) (h_t : Nat) (B_t : Nat → Nat) (t_thrown : Int32) (t_n : Int32) (t_modulus : Int32) (t_rows : Int32) (t_strands : Int32) (t_letters : Int32) (t_listedMany : Int32) (t_listN : Int32) (t_listWhat : Int32) (t_twists : Nat → Int32) : va_W := [(h_t, .inr (10, [.int t_thrown, .int t_n, .ref (B_t 2), .int t_modulus, .ref (B_t 4), .ref (B_t 5), .ref (B_t 6), .ref (B_t 7), .ref (B_t 8), .ref (B_t 9), .ref (B_t 10), .int t_rows, .ref (B_t 12), .ref (B_t 13), .ref (B_t 14), .ref (B_t 15), .ref (B_t 16), .ref (B_t 17), .ref (B_t 18), .ref (B_t 19), .int t_strands, .int t_letters, .ref (B_t 22), .ref (B_t 23), .ref (B_t 24), .ref (B_t 25), .int t_listedMany, .int t_listN, .int t_listWhat])), ((B_t 4), .inl (Y 0, 64, .inl t_twists))]

set_option maxHeartbeats 20000000 in
set_option maxRecDepth 100000 in
theorem wk_X11_twisted {p : Program} {l : Launch} {e : Env} {R : Room} {s : State} {m : MethodId} {args : Array Value} {below : List Frame} {meth : Method} {c : Code} {Q : State → Prop} {G : va_G} {Y : Nat → ClassId} {tF : Nat} {A : Nat → Prop} (h_t : Nat) (B_t : Nat → Nat) (t_thrown : Int32) (t_n : Int32) (t_modulus : Int32) (t_rows : Int32) (t_strands : Int32) (t_letters : Int32) (t_listedMany : Int32) (t_listN : Int32) (t_listWhat : Int32) (t_twists : Nat → Int32) (x1 : Int32) (x2 : Int32) {K : Int32 → Int32 → Prop} (hx : p.tables.exec = Jvm.exec) (hb : c.code = cX11_twisted) (hml : c.maxLocals = 3) (hown : s.vm.findClass RX11 = some m.cls) (hts : ∀ w ∈ wsX11_twisted, w.before args s = true) (hK : va_K G vwCl (tyL Y) s) (hE : Ev A tF s) (hA : ∀ q, s.heap.size ≤ q → A q) (hRf : 2 ≤ R.frames) (hRl : 46 ≤ R.locals) (hret : ∀ (r : Int32) (t_thrown : Int32) (H : Heap) (locs : List Loc) (ls : Array Slot) (pc : Nat), va_P G vwCl (w_X11_twisted Y h_t B_t t_thrown t_n t_modulus t_rows t_strands t_letters t_listedMany t_listN t_listWhat t_twists) H → va_D A (w_X11_twisted Y h_t B_t t_thrown t_n t_modulus t_rows t_strands t_letters t_listedMany t_listN t_listWhat t_twists) → va_S A s.heap H locs → K r t_thrown → decode cX11_twisted pc = .ok (.ireturn, 1) → W p l e R s m args below meth c H locs 0 0 Q (F0 m pc ls [.int r])) (hP : va_P G vwCl (w_X11_twisted Y h_t B_t t_thrown t_n t_modulus t_rows t_strands t_letters t_listedMany t_listN t_listWhat t_twists) s.heap) (hD : va_D A (w_X11_twisted Y h_t B_t t_thrown t_n t_modulus t_rows t_strands t_letters t_listedMany t_listN t_listWhat t_twists)) (h : pX11_twisted t_thrown t_n t_twists x1 x2 K) : W p l e R s m args below meth c s.heap [] 0 0 Q (entryFrame m ([.ref h_t, .int x1, .int x2] : List Value).toArray 3) := by
  have inX11 : ∀ w ∈ u_ws RX11 TX11 29, w ∈ wsX11_twisted := by decide +kernel
  have hf83 := hts (.fieldLink RX11 83 "RackBenchModel" "thrown" "I") (by decide +kernel)
  have hl := lv_entry ([.ref h_t, .int x1, .int x2]) (n := 3) (Nat.le_of_ble_eq_true rfl)
  rw [lg_entry_eq]
  generalize (lg_sl ([.ref h_t, .int x1, .int x2]) ++ List.replicate (3 - (lg_sl ([.ref h_t, .int x1, .int x2])).length) Slot.unset).toArray = ls at hl ⊢
  have hl : lv_has ls 3 [(0, .ref h_t), (1, .int x1), (2, .int x2)] := hl
  generalize hH0 : s.heap = H at hP ⊢
  have hS : va_S A s.heap H [] := by rw [← hH0]; exact va_S.rf
  clear hH0
  generalize ([] : List Loc) = locs at hS ⊢
  have J30 : ∀ (t_thrown : Int32) (H : Heap) (locs : List Loc) (ls : Array Slot), pX11_twisted_30 t_n t_twists K t_thrown → va_P G vwCl (w_X11_twisted Y h_t B_t t_thrown t_n t_modulus t_rows t_strands t_letters t_listedMany t_listN t_listWhat t_twists) H → va_D A (w_X11_twisted Y h_t B_t t_thrown t_n t_modulus t_rows t_strands t_letters t_listedMany t_listN t_listWhat t_twists) → va_S A s.heap H locs → lv_has ls 3 [] → W p l e R s m args below meth c H locs 0 0 Q (F0 m 30 ls []) := by
    intro t_thrown H locs ls h hP hD hS hl
    refine lv_iconst (v := -1) hx hb dX11_twisted_30 (by decide) ?_
    exact hret (-1 : Int32) t_thrown H locs ls _ hP hD hS h dX11_twisted_31
  refine lv_aload_n hx hb dX11_twisted_0 rfl (lv_at hl 0 rfl) ?_
  refine lv_iconst (v := 0) hx hb dX11_twisted_1 (by decide) ?_
  refine va_put (D := G) (ci := 10) (v := .int (0 : Int32)) (ty := .int) (C := RX11) (T := TX11) (N := 29) hx hb hts inX11 tyX11 tyX11_ok nmX11 hown hK hP hD hS 0 rfl rfl 0 (by decide) hf83 (fun _ h9 => h9) rfl (by decide +kernel) rfl rfl (Nat.le_of_ble_eq_true rfl) dX11_twisted_2 (fun H locs hP hD hS => ?_)
  have hP : va_P G vwCl (w_X11_twisted Y h_t B_t (0 : Int32) t_n t_modulus t_rows t_strands t_letters t_listedMany t_listN t_listWhat t_twists) H := hP
  have hD : va_D A (w_X11_twisted Y h_t B_t (0 : Int32) t_n t_modulus t_rows t_strands t_letters t_listedMany t_listN t_listWhat t_twists) := hD
  refine lv_aload_n hx hb dX11_twisted_5 rfl (lv_at hl 0 rfl) ?_
  refine lv_iload_n hx hb dX11_twisted_6 rfl (lv_at hl 1 rfl) ?_
  refine mc_iV ⟨hx, hb, hml, hown, hts⟩ hK hE hA hP hD hS (c_X11_isThing l G Y tF H.size h_t B_t (0 : Int32) t_n t_modulus t_rows t_strands t_letters t_listedMany t_listN t_listWhat x1 h) (cwV 1 hts gX11_twisted_X11_isThing rfl rfl rfl (by decide +kernel) ⟨Nat.le_trans (by decide) hRf, Nat.le_trans (by decide) hRl⟩) (fun u => (w_X11_twisted Y h_t B_t (0 : Int32) t_n t_modulus t_rows t_strands t_letters t_listedMany t_listN t_listWhat t_twists)) [0] [1] [1, 0] rfl rfl rfl rfl (by decide) (fun _ => rfl) rfl 0 10 rfl rfl rfl rfl hl.1 rfl (Nat.le_of_ble_eq_true rfl) dX11_twisted_7 (fun r7 u H locs h hP hD hS => ?_)
  try dsimp only at h
  have hP : va_P G vwCl (w_X11_twisted Y h_t B_t (0 : Int32) t_n t_modulus t_rows t_strands t_letters t_listedMany t_listN t_listWhat t_twists) H := hP
  have hD : va_D A (w_X11_twisted Y h_t B_t (0 : Int32) t_n t_modulus t_rows t_strands t_letters t_listedMany t_listN t_listWhat t_twists) := hD
  obtain ⟨ht, hf⟩ := h
  refine lv_if_eq (tgt := 30) hx hb dX11_twisted_10 (by decide) (fun c9 => ?_) (fun c9 => ?_)
  · have h := ht c9
    exact J30 (0 : Int32) H locs ls h hP hD hS (lv_sub hl [] rfl)
  · have h := hf c9
    refine lv_aload_n hx hb dX11_twisted_13 rfl (lv_at hl 0 rfl) ?_
    refine lv_iload_n hx hb dX11_twisted_14 rfl (lv_at hl 2 rfl) ?_
    refine mc_iV ⟨hx, hb, hml, hown, hts⟩ hK hE hA hP hD hS (c_X11_isThing l G Y tF H.size h_t B_t (0 : Int32) t_n t_modulus t_rows t_strands t_letters t_listedMany t_listN t_listWhat x2 h) (cwV 1 hts gX11_twisted_X11_isThing rfl rfl rfl (by decide +kernel) ⟨Nat.le_trans (by decide) hRf, Nat.le_trans (by decide) hRl⟩) (fun u => (w_X11_twisted Y h_t B_t (0 : Int32) t_n t_modulus t_rows t_strands t_letters t_listedMany t_listN t_listWhat t_twists)) [0] [1] [1, 0] rfl rfl rfl rfl (by decide) (fun _ => rfl) rfl 0 10 rfl rfl rfl rfl hl.1 rfl (Nat.le_of_ble_eq_true rfl) dX11_twisted_15 (fun r15 u H locs h hP hD hS => ?_)
    try dsimp only at h
    have hP : va_P G vwCl (w_X11_twisted Y h_t B_t (0 : Int32) t_n t_modulus t_rows t_strands t_letters t_listedMany t_listN t_listWhat t_twists) H := hP
    have hD : va_D A (w_X11_twisted Y h_t B_t (0 : Int32) t_n t_modulus t_rows t_strands t_letters t_listedMany t_listN t_listWhat t_twists) := hD
    obtain ⟨ht, hf⟩ := h
    refine lv_if_eq (tgt := 30) hx hb dX11_twisted_18 (by decide) (fun c9 => ?_) (fun c9 => ?_)
    · have h := ht c9
      exact J30 (0 : Int32) H locs ls h hP hD hS (lv_sub hl [] rfl)
    · have h := hf c9
      refine lv_aload_n hx hb dX11_twisted_21 rfl (lv_at hl 0 rfl) ?_
      refine lv_iload_n hx hb dX11_twisted_22 rfl (lv_at hl 1 rfl) ?_
      refine lv_iload_n hx hb dX11_twisted_23 rfl (lv_at hl 2 rfl) ?_
      refine mc_iV ⟨hx, hb, hml, hown, hts⟩ hK hE hA hP hD hS (c_X11_twistOf l G Y tF H.size h_t B_t (0 : Int32) t_n t_modulus t_rows t_strands t_letters t_listedMany t_listN t_listWhat t_twists x1 x2 h) (cwV 2 hts gX11_twisted_X11_twistOf rfl rfl rfl (by decide +kernel) ⟨Nat.le_trans (by decide) hRf, Nat.le_trans (by decide) hRl⟩) (fun u => (w_X11_twisted Y h_t B_t (0 : Int32) t_n t_modulus t_rows t_strands t_letters t_listedMany t_listN t_listWhat t_twists)) [0, 1] [] [0, 1] rfl rfl rfl rfl (by decide) (fun _ => rfl) rfl 0 10 rfl rfl rfl rfl hl.1 rfl (Nat.le_of_ble_eq_true rfl) dX11_twisted_24 (fun r24 u H locs h hP hD hS => ?_)
      try dsimp only at h
      have hP : va_P G vwCl (w_X11_twisted Y h_t B_t (0 : Int32) t_n t_modulus t_rows t_strands t_letters t_listedMany t_listN t_listWhat t_twists) H := hP
      have hD : va_D A (w_X11_twisted Y h_t B_t (0 : Int32) t_n t_modulus t_rows t_strands t_letters t_listedMany t_listN t_listWhat t_twists) := hD
      refine lv_goto (tgt := 31) hx hb dX11_twisted_27 (by decide) ?_
      exact hret r24 (0 : Int32) H locs ls _ hP hD hS h dX11_twisted_31

set_option maxHeartbeats 20000000 in
set_option maxRecDepth 100000 in
theorem c_X11_twisted (l : Launch) (G : va_G) (Y : Nat → ClassId) (tF sz : Nat) (h_t : Nat) (B_t : Nat → Nat) (t_thrown : Int32) (t_n : Int32) (t_modulus : Int32) (t_rows : Int32) (t_strands : Int32) (t_letters : Int32) (t_listedMany : Int32) (t_listN : Int32) (t_listWhat : Int32) (t_twists : Nat → Int32) (x1 : Int32) (x2 : Int32) {K : Int32 → Int32 → Prop} (h : pX11_twisted t_thrown t_n t_twists x1 x2 K) : Met l yX11_twisted wsX11_twisted ({ frames := 2, cells := 0, slots := 0, locals := 46 }) (PcM G Y tF sz (w_X11_twisted Y h_t B_t t_thrown t_n t_modulus t_rows t_strands t_letters t_listedMany t_listN t_listWhat t_twists) [.ref h_t, .int x1, .int x2]) (va_Qi (fun (r : Int32) (u : Int32) => K r u) (fun u t => BM G Y (va_A (w_X11_twisted Y h_t B_t t_thrown t_n t_modulus t_rows t_strands t_letters t_listedMany t_listN t_listWhat t_twists) sz) (w_X11_twisted Y h_t B_t u t_n t_modulus t_rows t_strands t_letters t_listedMany t_listN t_listWhat t_twists) t) (va_A (w_X11_twisted Y h_t B_t t_thrown t_n t_modulus t_rows t_strands t_letters t_listedMany t_listN t_listWhat t_twists) sz)) 0 0 (va_A (w_X11_twisted Y h_t B_t t_thrown t_n t_modulus t_rows t_strands t_letters t_listedMany t_listN t_listWhat t_twists) sz) := by
  refine Met.ofW (cc := cX11_twisted) (maxL := 3) (ret := (some .int)) (by decide +kernel) rfl ?_
  intro p e s m args below meth c s₁ B hml hv
  obtain ⟨rfl, hsz, hP, hK, hD0, hE⟩ := hv
  have hts := atoms_spec (ws := wsX11_twisted) B.pre
  have hown : s.vm.findClass RX11 = some m.cls := findClass_of_methodNamed B.named
  have hlocks := B.notSynchronized
  subst hsz
  have hD := hD0.self (sz := s.heap.size)
  exact wk_X11_twisted h_t B_t t_thrown t_n t_modulus t_rows t_strands t_letters t_listedMany t_listN t_listWhat t_twists x1 x2 B.exec B.bytes hml hown hts hK hE (fun q h => Or.inr h) (Nat.le_refl _) (Nat.le_refl _) (fun r t_thrown H locs ls pc hP hD hS hk hd => W.iret (v := r) B.exec B.bytes B.returns (fun t ht hW => ⟨⟨r, t_thrown, rfl, hk, by rw [ht]; exact hP, va_K.moved hW.alike hK, hD⟩, hS.F ht⟩) hS.2.2 hd) hP hD h

abbrev w_X11_open (Y : Nat → ClassId) (h_t : Nat) (B_t : Nat → Nat) (t_thrown : Int32) (t_n : Int32) (t_modulus : Int32) (t_rows : Int32) (t_strands : Int32) (t_letters : Int32) (t_listedMany : Int32) (t_listN : Int32) (t_listWhat : Int32) (t_table : Nat → Int32) (t_twists : Nat → Int32) : va_W := [(h_t, .inr (10, [.int t_thrown, .int t_n, .ref (B_t 2), .int t_modulus, .ref (B_t 4), .ref (B_t 5), .ref (B_t 6), .ref (B_t 7), .ref (B_t 8), .ref (B_t 9), .ref (B_t 10), .int t_rows, .ref (B_t 12), .ref (B_t 13), .ref (B_t 14), .ref (B_t 15), .ref (B_t 16), .ref (B_t 17), .ref (B_t 18), .ref (B_t 19), .int t_strands, .int t_letters, .ref (B_t 22), .ref (B_t 23), .ref (B_t 24), .ref (B_t 25), .int t_listedMany, .int t_listN, .int t_listWhat])), ((B_t 2), .inl (Y 0, 64, .inl t_table)), ((B_t 4), .inl (Y 0, 64, .inl t_twists))]

set_option maxHeartbeats 20000000 in
set_option maxRecDepth 100000 in
theorem wk_X11_open {p : Program} {l : Launch} {e : Env} {R : Room} {s : State} {m : MethodId} {args : Array Value} {below : List Frame} {meth : Method} {c : Code} {Q : State → Prop} {G : va_G} {Y : Nat → ClassId} {tF : Nat} {A : Nat → Prop} (h_t : Nat) (B_t : Nat → Nat) (t_thrown : Int32) (t_n : Int32) (t_modulus : Int32) (t_rows : Int32) (t_strands : Int32) (t_letters : Int32) (t_listedMany : Int32) (t_listN : Int32) (t_listWhat : Int32) (t_table : Nat → Int32) (t_twists : Nat → Int32) {K : Int32 → Prop} (hx : p.tables.exec = Jvm.exec) (hb : c.code = cX11_open) (hml : c.maxLocals = 6) (hown : s.vm.findClass RX11 = some m.cls) (hts : ∀ w ∈ wsX11_open, w.before args s = true) (hK : va_K G vwCl (tyL Y) s) (hE : Ev A tF s) (hA : ∀ q, s.heap.size ≤ q → A q) (hRf : 1 ≤ R.frames) (hRl : 22 ≤ R.locals) (hret : ∀ (r : Int32)  (H : Heap) (locs : List Loc) (ls : Array Slot) (pc : Nat), va_P G vwCl (w_X11_open Y h_t B_t t_thrown t_n t_modulus t_rows t_strands t_letters t_listedMany t_listN t_listWhat t_table t_twists) H → va_D A (w_X11_open Y h_t B_t t_thrown t_n t_modulus t_rows t_strands t_letters t_listedMany t_listN t_listWhat t_table t_twists) → va_S A s.heap H locs → K r → decode cX11_open pc = .ok (.ireturn, 1) → W p l e R s m args below meth c H locs 0 0 Q (F0 m pc ls [.int r])) (hP : va_P G vwCl (w_X11_open Y h_t B_t t_thrown t_n t_modulus t_rows t_strands t_letters t_listedMany t_listN t_listWhat t_table t_twists) s.heap) (hD : va_D A (w_X11_open Y h_t B_t t_thrown t_n t_modulus t_rows t_strands t_letters t_listedMany t_listN t_listWhat t_table t_twists)) (h : pX11_open t_n t_modulus t_table t_twists K) : W p l e R s m args below meth c s.heap [] 0 0 Q (entryFrame m ([.ref h_t] : List Value).toArray 6) := by
  have inX11 : ∀ w ∈ u_ws RX11 TX11 29, w ∈ wsX11_open := by decide +kernel
  have hf17 := hts (.fieldLink RX11 17 "RackBenchModel" "modulus" "I") (by decide +kernel)
  have hf9 := hts (.fieldLink RX11 9 "RackBenchModel" "n" "I") (by decide +kernel)
  have hl := lv_entry ([.ref h_t]) (n := 6) (Nat.le_of_ble_eq_true rfl)
  rw [lg_entry_eq]
  generalize (lg_sl ([.ref h_t]) ++ List.replicate (6 - (lg_sl ([.ref h_t])).length) Slot.unset).toArray = ls at hl ⊢
  have hl : lv_has ls 6 [(0, .ref h_t)] := hl
  generalize hH0 : s.heap = H at hP ⊢
  have hS : va_S A s.heap H [] := by rw [← hH0]; exact va_S.rf
  clear hH0
  generalize ([] : List Loc) = locs at hS ⊢
  refine lv_iconst (v := 0) hx hb dX11_open_0 (by decide) ?_
  refine lv_istore_n (lv' := [(1, .int (0 : Int32)), (0, .ref h_t)]) hx hb dX11_open_1 rfl hl (by decide) rfl (fun ls hl => ?_)
  obtain ⟨I2, m2, hI2, hB2⟩ := h
  have L2 : ∀  (I2 : Int32 → Prop) (m2 : Int32 → Nat), (∀ (x1 : Int32), I2 x1 → pX11_open_2 t_n t_modulus t_table t_twists K x1 (fun x1' => I2 x1' ∧ m2 x1' < m2 x1)) → ∀ (n : Nat) (x1 : Int32) (H : Heap) (locs : List Loc) (ls : Array Slot), I2 x1 → m2 x1 < n → va_P G vwCl (w_X11_open Y h_t B_t t_thrown t_n t_modulus t_rows t_strands t_letters t_listedMany t_listN t_listWhat t_table t_twists) H → va_D A (w_X11_open Y h_t B_t t_thrown t_n t_modulus t_rows t_strands t_letters t_listedMany t_listN t_listWhat t_table t_twists) → va_S A s.heap H locs → lv_has ls 6 [(0, .ref h_t), (1, .int x1)] → W p l e R s m args below meth c H locs 0 0 Q (F0 m 2 ls []) := by
    intro  I2 m2 hB2 n
    induction n with
    | zero => intro x1 H locs ls _ hm; exact absurd hm (Nat.not_lt_zero _)
    | succ n ih =>
      intro x1 H locs ls hI hm hP hD hS hl
      obtain ⟨R2, h, rec2⟩ : ∃ R2 : Int32 → Prop, pX11_open_2 t_n t_modulus t_table t_twists K x1 R2 ∧ ∀ (x1 : Int32) (H : Heap) (locs : List Loc) (ls : Array Slot), R2 x1 → va_P G vwCl (w_X11_open Y h_t B_t t_thrown t_n t_modulus t_rows t_strands t_letters t_listedMany t_listN t_listWhat t_table t_twists) H → va_D A (w_X11_open Y h_t B_t t_thrown t_n t_modulus t_rows t_strands t_letters t_listedMany t_listN t_listWhat t_table t_twists) → va_S A s.heap H locs → lv_has ls 6 [(0, .ref h_t), (1, .int x1)] → W p l e R s m args below meth c H locs 0 0 Q (F0 m 2 ls []) := ⟨_, hB2 x1 hI, fun x1 H locs ls hh hP hD hS hl => ih x1 H locs ls hh.1 (Nat.lt_of_lt_of_le hh.2 (Nat.le_of_lt_succ hm)) hP hD hS hl⟩
      refine lv_iload_n hx hb dX11_open_2 rfl (lv_at hl 1 rfl) ?_
      refine lv_aload_n hx hb dX11_open_3 rfl (lv_at hl 0 rfl) ?_
      refine va_get (D := G) (ci := 10) (v := .int t_n) (C := RX11) (T := TX11) (N := 29) hx hb hts inX11 hown hK hP 0 rfl rfl 1 (by decide) hf9 (fun _ h9 => h9) rfl dX11_open_4 ?_
      obtain ⟨ht, hf⟩ := h
      refine lv_icmp_ge (tgt := 118) hx hb dX11_open_7 (by decide) (fun c9 => ?_) (fun c9 => ?_)
      · have h := ht c9
        refine lv_iconst (v := -1) hx hb dX11_open_118 (by decide) ?_
        exact hret (-1 : Int32)  H locs ls _ hP hD hS h dX11_open_119
      · have h := hf c9
        refine lv_iconst (v := 0) hx hb dX11_open_10 (by decide) ?_
        refine lv_istore_n (lv' := [(2, .int (0 : Int32)), (0, .ref h_t), (1, .int x1)]) hx hb dX11_open_11 rfl hl (by decide) rfl (fun ls hl => ?_)
        obtain ⟨I12, m12, hI12, hB12⟩ := h
        have L12 : ∀ (x1 : Int32) (I12 : Int32 → Prop) (m12 : Int32 → Nat), (∀ (x2 : Int32), I12 x2 → pX11_open_12 t_n t_modulus t_table t_twists R2 K x1 x2 (fun x2' => I12 x2' ∧ m12 x2' < m12 x2)) → ∀ (n : Nat) (x2 : Int32) (H : Heap) (locs : List Loc) (ls : Array Slot), I12 x2 → m12 x2 < n → va_P G vwCl (w_X11_open Y h_t B_t t_thrown t_n t_modulus t_rows t_strands t_letters t_listedMany t_listN t_listWhat t_table t_twists) H → va_D A (w_X11_open Y h_t B_t t_thrown t_n t_modulus t_rows t_strands t_letters t_listedMany t_listN t_listWhat t_table t_twists) → va_S A s.heap H locs → lv_has ls 6 [(0, .ref h_t), (1, .int x1), (2, .int x2)] → W p l e R s m args below meth c H locs 0 0 Q (F0 m 12 ls []) := by
          intro x1 I12 m12 hB12 n
          induction n with
          | zero => intro x2 H locs ls _ hm; exact absurd hm (Nat.not_lt_zero _)
          | succ n ih =>
            intro x2 H locs ls hI hm hP hD hS hl
            obtain ⟨R12, h, rec12⟩ : ∃ R12 : Int32 → Prop, pX11_open_12 t_n t_modulus t_table t_twists R2 K x1 x2 R12 ∧ ∀ (x2 : Int32) (H : Heap) (locs : List Loc) (ls : Array Slot), R12 x2 → va_P G vwCl (w_X11_open Y h_t B_t t_thrown t_n t_modulus t_rows t_strands t_letters t_listedMany t_listN t_listWhat t_table t_twists) H → va_D A (w_X11_open Y h_t B_t t_thrown t_n t_modulus t_rows t_strands t_letters t_listedMany t_listN t_listWhat t_table t_twists) → va_S A s.heap H locs → lv_has ls 6 [(0, .ref h_t), (1, .int x1), (2, .int x2)] → W p l e R s m args below meth c H locs 0 0 Q (F0 m 12 ls []) := ⟨_, hB12 x2 hI, fun x2 H locs ls hh hP hD hS hl => ih x2 H locs ls hh.1 (Nat.lt_of_lt_of_le hh.2 (Nat.le_of_lt_succ hm)) hP hD hS hl⟩
            refine lv_iload_n hx hb dX11_open_12 rfl (lv_at hl 2 rfl) ?_
            refine lv_aload_n hx hb dX11_open_13 rfl (lv_at hl 0 rfl) ?_
            refine va_get (D := G) (ci := 10) (v := .int t_n) (C := RX11) (T := TX11) (N := 29) hx hb hts inX11 hown hK hP 0 rfl rfl 1 (by decide) hf9 (fun _ h9 => h9) rfl dX11_open_14 ?_
            obtain ⟨ht, hf⟩ := h
            refine lv_icmp_ge (tgt := 112) hx hb dX11_open_17 (by decide) (fun c9 => ?_) (fun c9 => ?_)
            · have h := ht c9
              refine lv_iinc (v := (x1 + 1)) (lv' := [(1, .int (x1 + 1)), (0, .ref h_t), (2, .int x2)]) hx hb dX11_open_112 hl (k := 1) rfl rfl (by decide) rfl (fun ls hl => ?_)
              refine lv_goto (tgt := 2) hx hb dX11_open_115 (by decide) ?_
              exact rec2 (x1 + 1) H locs ls h hP hD hS (lv_sub hl [1, 0] rfl)
            · have h := hf c9
              refine lv_iconst (v := 0) hx hb dX11_open_20 (by decide) ?_
              refine lv_istore_n (lv' := [(3, .int (0 : Int32)), (0, .ref h_t), (1, .int x1), (2, .int x2)]) hx hb dX11_open_21 rfl hl (by decide) rfl (fun ls hl => ?_)
              obtain ⟨I22, m22, hI22, hB22⟩ := h
              have L22 : ∀ (x2 : Int32) (I22 : Int32 → Prop) (m22 : Int32 → Nat), (∀ (x3 : Int32), I22 x3 → pX11_open_22 t_n t_modulus t_table t_twists R2 R12 K x1 x2 x3 (fun x3' => I22 x3' ∧ m22 x3' < m22 x3)) → ∀ (n : Nat) (x3 : Int32) (H : Heap) (locs : List Loc) (ls : Array Slot), I22 x3 → m22 x3 < n → va_P G vwCl (w_X11_open Y h_t B_t t_thrown t_n t_modulus t_rows t_strands t_letters t_listedMany t_listN t_listWhat t_table t_twists) H → va_D A (w_X11_open Y h_t B_t t_thrown t_n t_modulus t_rows t_strands t_letters t_listedMany t_listN t_listWhat t_table t_twists) → va_S A s.heap H locs → lv_has ls 6 [(0, .ref h_t), (1, .int x1), (2, .int x2), (3, .int x3)] → W p l e R s m args below meth c H locs 0 0 Q (F0 m 22 ls []) := by
                intro x2 I22 m22 hB22 n
                induction n with
                | zero => intro x3 H locs ls _ hm; exact absurd hm (Nat.not_lt_zero _)
                | succ n ih =>
                  intro x3 H locs ls hI hm hP hD hS hl
                  obtain ⟨R22, h, rec22⟩ : ∃ R22 : Int32 → Prop, pX11_open_22 t_n t_modulus t_table t_twists R2 R12 K x1 x2 x3 R22 ∧ ∀ (x3 : Int32) (H : Heap) (locs : List Loc) (ls : Array Slot), R22 x3 → va_P G vwCl (w_X11_open Y h_t B_t t_thrown t_n t_modulus t_rows t_strands t_letters t_listedMany t_listN t_listWhat t_table t_twists) H → va_D A (w_X11_open Y h_t B_t t_thrown t_n t_modulus t_rows t_strands t_letters t_listedMany t_listN t_listWhat t_table t_twists) → va_S A s.heap H locs → lv_has ls 6 [(0, .ref h_t), (1, .int x1), (2, .int x2), (3, .int x3)] → W p l e R s m args below meth c H locs 0 0 Q (F0 m 22 ls []) := ⟨_, hB22 x3 hI, fun x3 H locs ls hh hP hD hS hl => ih x3 H locs ls hh.1 (Nat.lt_of_lt_of_le hh.2 (Nat.le_of_lt_succ hm)) hP hD hS hl⟩
                  refine lv_iload_n hx hb dX11_open_22 rfl (lv_at hl 3 rfl) ?_
                  refine lv_aload_n hx hb dX11_open_23 rfl (lv_at hl 0 rfl) ?_
                  refine va_get (D := G) (ci := 10) (v := .int t_n) (C := RX11) (T := TX11) (N := 29) hx hb hts inX11 hown hK hP 0 rfl rfl 1 (by decide) hf9 (fun _ h9 => h9) rfl dX11_open_24 ?_
                  obtain ⟨ht, hf⟩ := h
                  refine lv_icmp_ge (tgt := 106) hx hb dX11_open_27 (by decide) (fun c9 => ?_) (fun c9 => ?_)
                  · have h := ht c9
                    refine lv_iinc (v := (x2 + 1)) (lv' := [(2, .int (x2 + 1)), (0, .ref h_t), (1, .int x1), (3, .int x3)]) hx hb dX11_open_106 hl (k := 2) rfl rfl (by decide) rfl (fun ls hl => ?_)
                    refine lv_goto (tgt := 12) hx hb dX11_open_109 (by decide) ?_
                    exact rec12 (x2 + 1) H locs ls h hP hD hS (lv_sub hl [1, 2, 0] rfl)
                  · have h := hf c9
                    refine lv_aload_n hx hb dX11_open_30 rfl (lv_at hl 0 rfl) ?_
                    refine lv_iload_n hx hb dX11_open_31 rfl (lv_at hl 2 rfl) ?_
                    refine lv_iload_n hx hb dX11_open_32 rfl (lv_at hl 3 rfl) ?_
                    refine mc_iV ⟨hx, hb, hml, hown, hts⟩ hK hE hA hP hD hS (c_X11_twistOf l G Y tF H.size h_t B_t t_thrown t_n t_modulus t_rows t_strands t_letters t_listedMany t_listN t_listWhat t_twists x2 x3 h) (cwV 2 hts gX11_open_X11_twistOf rfl rfl rfl (by decide +kernel) ⟨Nat.le_trans (by decide) hRf, Nat.le_trans (by decide) hRl⟩) (fun u => (w_X11_open Y h_t B_t t_thrown t_n t_modulus t_rows t_strands t_letters t_listedMany t_listN t_listWhat t_table t_twists)) [0, 2] [1] [1, 0, 2] rfl rfl rfl rfl (by decide) (fun _ => rfl) rfl 0 10 rfl rfl rfl rfl hl.1 rfl (Nat.le_of_ble_eq_true rfl) dX11_open_33 (fun r33 u H locs h hP hD hS => ?_)
                    try dsimp only at h
                    have hP : va_P G vwCl (w_X11_open Y h_t B_t t_thrown t_n t_modulus t_rows t_strands t_letters t_listedMany t_listN t_listWhat t_table t_twists) H := hP
                    have hD : va_D A (w_X11_open Y h_t B_t t_thrown t_n t_modulus t_rows t_strands t_letters t_listedMany t_listN t_listWhat t_table t_twists) := hD
                    refine lv_aload_n hx hb dX11_open_36 rfl (lv_at hl 0 rfl) ?_
                    refine lv_iload_n hx hb dX11_open_37 rfl (lv_at hl 1 rfl) ?_
                    refine lv_aload_n hx hb dX11_open_38 rfl (lv_at hl 0 rfl) ?_
                    refine lv_iload_n hx hb dX11_open_39 rfl (lv_at hl 2 rfl) ?_
                    refine lv_iload_n hx hb dX11_open_40 rfl (lv_at hl 3 rfl) ?_
                    refine mc_iV ⟨hx, hb, hml, hown, hts⟩ hK hE hA hP hD hS (c_X11_by l G Y tF H.size h_t B_t t_thrown t_n t_modulus t_rows t_strands t_letters t_listedMany t_listN t_listWhat t_table x2 x3 h) (cwV 2 hts gX11_open_X11_by rfl rfl rfl (by decide +kernel) ⟨Nat.le_trans (by decide) hRf, Nat.le_trans (by decide) hRl⟩) (fun u => (w_X11_open Y h_t B_t t_thrown t_n t_modulus t_rows t_strands t_letters t_listedMany t_listN t_listWhat t_table t_twists)) [0, 1] [2] [1, 2, 0] rfl rfl rfl rfl (by decide) (fun _ => rfl) rfl 0 10 rfl rfl rfl rfl hl.1 rfl (Nat.le_of_ble_eq_true rfl) dX11_open_41 (fun r41 u H locs h hP hD hS => ?_)
                    try dsimp only at h
                    have hP : va_P G vwCl (w_X11_open Y h_t B_t t_thrown t_n t_modulus t_rows t_strands t_letters t_listedMany t_listN t_listWhat t_table t_twists) H := hP
                    have hD : va_D A (w_X11_open Y h_t B_t t_thrown t_n t_modulus t_rows t_strands t_letters t_listedMany t_listN t_listWhat t_table t_twists) := hD
                    refine mc_iV ⟨hx, hb, hml, hown, hts⟩ hK hE hA hP hD hS (c_X11_twistOf l G Y tF H.size h_t B_t t_thrown t_n t_modulus t_rows t_strands t_letters t_listedMany t_listN t_listWhat t_twists x1 r41 h) (cwV 2 hts gX11_open_X11_twistOf rfl rfl rfl (by decide +kernel) ⟨Nat.le_trans (by decide) hRf, Nat.le_trans (by decide) hRl⟩) (fun u => (w_X11_open Y h_t B_t t_thrown t_n t_modulus t_rows t_strands t_letters t_listedMany t_listN t_listWhat t_table t_twists)) [0, 2] [1] [1, 0, 2] rfl rfl rfl rfl (by decide) (fun _ => rfl) rfl 0 10 rfl rfl rfl rfl hl.1 rfl (Nat.le_of_ble_eq_true rfl) dX11_open_44 (fun r44 u H locs h hP hD hS => ?_)
                    try dsimp only at h
                    have hP : va_P G vwCl (w_X11_open Y h_t B_t t_thrown t_n t_modulus t_rows t_strands t_letters t_listedMany t_listN t_listWhat t_table t_twists) H := hP
                    have hD : va_D A (w_X11_open Y h_t B_t t_thrown t_n t_modulus t_rows t_strands t_letters t_listedMany t_listN t_listWhat t_table t_twists) := hD
                    refine lv_iadd hx hb dX11_open_47 ?_
                    refine lv_istore (lv' := [(4, .int (r33 + r44)), (0, .ref h_t), (1, .int x1), (2, .int x2), (3, .int x3)]) hx hb dX11_open_48 hl (by decide) rfl (fun ls hl => ?_)
                    refine lv_aload_n hx hb dX11_open_50 rfl (lv_at hl 1 rfl) ?_
                    refine lv_iload_n hx hb dX11_open_51 rfl (lv_at hl 2 rfl) ?_
                    refine lv_iload_n hx hb dX11_open_52 rfl (lv_at hl 4 rfl) ?_
                    refine mc_iV ⟨hx, hb, hml, hown, hts⟩ hK hE hA hP hD hS (c_X11_twistOf l G Y tF H.size h_t B_t t_thrown t_n t_modulus t_rows t_strands t_letters t_listedMany t_listN t_listWhat t_twists x1 x3 h) (cwV 2 hts gX11_open_X11_twistOf rfl rfl rfl (by decide +kernel) ⟨Nat.le_trans (by decide) hRf, Nat.le_trans (by decide) hRl⟩) (fun u => (w_X11_open Y h_t B_t t_thrown t_n t_modulus t_rows t_strands t_letters t_listedMany t_listN t_listWhat t_table t_twists)) [0, 2] [1] [1, 0, 2] rfl rfl rfl rfl (by decide) (fun _ => rfl) rfl 0 10 rfl rfl rfl rfl hl.1 rfl (Nat.le_of_ble_eq_true rfl) dX11_open_53 (fun r53 u H locs h hP hD hS => ?_)
                    try dsimp only at h
                    have hP : va_P G vwCl (w_X11_open Y h_t B_t t_thrown t_n t_modulus t_rows t_strands t_letters t_listedMany t_listN t_listWhat t_table t_twists) H := hP
                    have hD : va_D A (w_X11_open Y h_t B_t t_thrown t_n t_modulus t_rows t_strands t_letters t_listedMany t_listN t_listWhat t_table t_twists) := hD
                    refine lv_aload_n hx hb dX11_open_56 rfl (lv_at hl 1 rfl) ?_
                    refine lv_aload_n hx hb dX11_open_57 rfl (lv_at hl 1 rfl) ?_
                    refine lv_iload_n hx hb dX11_open_58 rfl (lv_at hl 2 rfl) ?_
                    refine lv_iload_n hx hb dX11_open_59 rfl (lv_at hl 3 rfl) ?_
                    refine mc_iV ⟨hx, hb, hml, hown, hts⟩ hK hE hA hP hD hS (c_X11_by l G Y tF H.size h_t B_t t_thrown t_n t_modulus t_rows t_strands t_letters t_listedMany t_listN t_listWhat t_table x1 x2 h) (cwV 2 hts gX11_open_X11_by rfl rfl rfl (by decide +kernel) ⟨Nat.le_trans (by decide) hRf, Nat.le_trans (by decide) hRl⟩) (fun u => (w_X11_open Y h_t B_t t_thrown t_n t_modulus t_rows t_strands t_letters t_listedMany t_listN t_listWhat t_table t_twists)) [0, 1] [2] [1, 2, 0] rfl rfl rfl rfl (by decide) (fun _ => rfl) rfl 0 10 rfl rfl rfl rfl hl.1 rfl (Nat.le_of_ble_eq_true rfl) dX11_open_60 (fun r60 u H locs h hP hD hS => ?_)
                    try dsimp only at h
                    have hP : va_P G vwCl (w_X11_open Y h_t B_t t_thrown t_n t_modulus t_rows t_strands t_letters t_listedMany t_listN t_listWhat t_table t_twists) H := hP
                    have hD : va_D A (w_X11_open Y h_t B_t t_thrown t_n t_modulus t_rows t_strands t_letters t_listedMany t_listN t_listWhat t_table t_twists) := hD
                    refine lv_aload_n hx hb dX11_open_63 rfl (lv_at hl 1 rfl) ?_
                    refine lv_iload_n hx hb dX11_open_64 rfl (lv_at hl 2 rfl) ?_
                    refine lv_iload_n hx hb dX11_open_65 rfl (lv_at hl 4 rfl) ?_
                    refine mc_iV ⟨hx, hb, hml, hown, hts⟩ hK hE hA hP hD hS (c_X11_by l G Y tF H.size h_t B_t t_thrown t_n t_modulus t_rows t_strands t_letters t_listedMany t_listN t_listWhat t_table x1 x3 h) (cwV 2 hts gX11_open_X11_by rfl rfl rfl (by decide +kernel) ⟨Nat.le_trans (by decide) hRf, Nat.le_trans (by decide) hRl⟩) (fun u => (w_X11_open Y h_t B_t t_thrown t_n t_modulus t_rows t_strands t_letters t_listedMany t_listN t_listWhat t_table t_twists)) [0, 1] [2] [1, 2, 0] rfl rfl rfl rfl (by decide) (fun _ => rfl) rfl 0 10 rfl rfl rfl rfl hl.1 rfl (Nat.le_of_ble_eq_true rfl) dX11_open_66 (fun r66 u H locs h hP hD hS => ?_)
                    try dsimp only at h
                    have hP : va_P G vwCl (w_X11_open Y h_t B_t t_thrown t_n t_modulus t_rows t_strands t_letters t_listedMany t_listN t_listWhat t_table t_twists) H := hP
                    have hD : va_D A (w_X11_open Y h_t B_t t_thrown t_n t_modulus t_rows t_strands t_letters t_listedMany t_listN t_listWhat t_table t_twists) := hD
                    refine mc_iV ⟨hx, hb, hml, hown, hts⟩ hK hE hA hP hD hS (c_X11_twistOf l G Y tF H.size h_t B_t t_thrown t_n t_modulus t_rows t_strands t_letters t_listedMany t_listN t_listWhat t_twists r60 r66 h) (cwV 2 hts gX11_open_X11_twistOf rfl rfl rfl (by decide +kernel) ⟨Nat.le_trans (by decide) hRf, Nat.le_trans (by decide) hRl⟩) (fun u => (w_X11_open Y h_t B_t t_thrown t_n t_modulus t_rows t_strands t_letters t_listedMany t_listN t_listWhat t_table t_twists)) [0, 2] [1] [1, 0, 2] rfl rfl rfl rfl (by decide) (fun _ => rfl) rfl 0 10 rfl rfl rfl rfl hl.1 rfl (Nat.le_of_ble_eq_true rfl) dX11_open_69 (fun r69 u H locs h hP hD hS => ?_)
                    try dsimp only at h
                    have hP : va_P G vwCl (w_X11_open Y h_t B_t t_thrown t_n t_modulus t_rows t_strands t_letters t_listedMany t_listN t_listWhat t_table t_twists) H := hP
                    have hD : va_D A (w_X11_open Y h_t B_t t_thrown t_n t_modulus t_rows t_strands t_letters t_listedMany t_listN t_listWhat t_table t_twists) := hD
                    refine lv_iadd hx hb dX11_open_72 ?_
                    refine lv_istore (lv' := [(5, .int (r53 + r69)), (4, .int (r33 + r44)), (0, .ref h_t), (1, .int x1), (2, .int x2), (3, .int x3)]) hx hb dX11_open_73 hl (by decide) rfl (fun ls hl => ?_)
                    refine lv_iload hx hb dX11_open_75 (lv_at hl 1 rfl) ?_
                    refine lv_iload hx hb dX11_open_77 (lv_at hl 0 rfl) ?_
                    refine lv_isub hx hb dX11_open_79 ?_
                    refine lv_aload_n hx hb dX11_open_80 rfl (lv_at hl 2 rfl) ?_
                    refine va_get (D := G) (ci := 10) (v := .int t_modulus) (C := RX11) (T := TX11) (N := 29) hx hb hts inX11 hown hK hP 0 rfl rfl 3 (by decide) hf17 (fun _ h9 => h9) rfl dX11_open_81 ?_
                    obtain ⟨hne, h⟩ := h
                    refine lv_irem hx hb dX11_open_84 hne ?_
                    obtain ⟨ht, hf⟩ := h
                    refine lv_if_eq (tgt := 100) hx hb dX11_open_85 (by decide) (fun c9 => ?_) (fun c9 => ?_)
                    · have h := ht c9
                      refine lv_iinc (v := (x3 + 1)) (lv' := [(3, .int (x3 + 1)), (5, .int (r53 + r69)), (4, .int (r33 + r44)), (0, .ref h_t), (1, .int x1), (2, .int x2)]) hx hb dX11_open_100 hl (k := 5) rfl rfl (by decide) rfl (fun ls hl => ?_)
                      refine lv_goto (tgt := 22) hx hb dX11_open_103 (by decide) ?_
                      exact rec22 (x3 + 1) H locs ls h hP hD hS (lv_sub hl [3, 4, 5, 0] rfl)
                    · have h := hf c9
                      refine lv_iload_n hx hb dX11_open_88 rfl (lv_at hl 3 rfl) ?_
                      refine lv_bipush (v := 8) hx hb dX11_open_89 (by decide) ?_
                      refine lv_imul hx hb dX11_open_91 ?_
                      refine lv_iload_n hx hb dX11_open_92 rfl (lv_at hl 4 rfl) ?_
                      refine lv_iadd hx hb dX11_open_93 ?_
                      refine lv_bipush (v := 8) hx hb dX11_open_94 (by decide) ?_
                      refine lv_imul hx hb dX11_open_96 ?_
                      refine lv_iload_n hx hb dX11_open_97 rfl (lv_at hl 5 rfl) ?_
                      refine lv_iadd hx hb dX11_open_98 ?_
                      exact hret ((((x1 * (8 : Int32)) + x2) * (8 : Int32)) + x3)  H locs ls _ hP hD hS h dX11_open_99
              exact L22 x2 I22 m22 hB22 _ (0 : Int32) H locs ls hI22 (Nat.lt_succ_self _) hP hD hS (lv_sub hl [1, 2, 3, 0] rfl)
        exact L12 x1 I12 m12 hB12 _ (0 : Int32) H locs ls hI12 (Nat.lt_succ_self _) hP hD hS (lv_sub hl [1, 2, 0] rfl)
  exact L2  I2 m2 hB2 _ (0 : Int32) H locs ls hI2 (Nat.lt_succ_self _) hP hD hS (lv_sub hl [1, 0] rfl)

set_option maxHeartbeats 20000000 in
set_option maxRecDepth 100000 in
theorem c_X11_open (l : Launch) (G : va_G) (Y : Nat → ClassId) (tF sz : Nat) (h_t : Nat) (B_t : Nat → Nat) (t_thrown : Int32) (t_n : Int32) (t_modulus : Int32) (t_rows : Int32) (t_strands : Int32) (t_letters : Int32) (t_listedMany : Int32) (t_listN : Int32) (t_listWhat : Int32) (t_table : Nat → Int32) (t_twists : Nat → Int32) {K : Int32 → Prop} (h : pX11_open t_n t_modulus t_table t_twists K) : Met l yX11_open wsX11_open ({ frames := 1, cells := 0, slots := 0, locals := 22 }) (PcM G Y tF sz (w_X11_open Y h_t B_t t_thrown t_n t_modulus t_rows t_strands t_letters t_listedMany t_listN t_listWhat t_table t_twists) [.ref h_t]) (va_Qi (fun (r : Int32) (u : Unit) => K r ) (fun u t => BM G Y (va_A (w_X11_open Y h_t B_t t_thrown t_n t_modulus t_rows t_strands t_letters t_listedMany t_listN t_listWhat t_table t_twists) sz) (w_X11_open Y h_t B_t t_thrown t_n t_modulus t_rows t_strands t_letters t_listedMany t_listN t_listWhat t_table t_twists) t) (va_A (w_X11_open Y h_t B_t t_thrown t_n t_modulus t_rows t_strands t_letters t_listedMany t_listN t_listWhat t_table t_twists) sz)) 0 0 (va_A (w_X11_open Y h_t B_t t_thrown t_n t_modulus t_rows t_strands t_letters t_listedMany t_listN t_listWhat t_table t_twists) sz) := by
  refine Met.ofW (cc := cX11_open) (maxL := 6) (ret := (some .int)) (by decide +kernel) rfl ?_
  intro p e s m args below meth c s₁ B hml hv
  obtain ⟨rfl, hsz, hP, hK, hD0, hE⟩ := hv
  have hts := atoms_spec (ws := wsX11_open) B.pre
  have hown : s.vm.findClass RX11 = some m.cls := findClass_of_methodNamed B.named
  have hlocks := B.notSynchronized
  subst hsz
  have hD := hD0.self (sz := s.heap.size)
  exact wk_X11_open h_t B_t t_thrown t_n t_modulus t_rows t_strands t_letters t_listedMany t_listN t_listWhat t_table t_twists B.exec B.bytes hml hown hts hK hE (fun q h => Or.inr h) (Nat.le_refl _) (Nat.le_refl _) (fun r  H locs ls pc hP hD hS hk hd => W.iret (v := r) B.exec B.bytes B.returns (fun t ht hW => ⟨⟨r, (), rfl, hk, by rw [ht]; exact hP, va_K.moved hW.alike hK, hD⟩, hS.F ht⟩) hS.2.2 hd) hP hD h

abbrev w_X11_closed (Y : Nat → ClassId) (h_t : Nat) (B_t : Nat → Nat) (t_thrown : Int32) (t_n : Int32) (t_modulus : Int32) (t_rows : Int32) (t_strands : Int32) (t_letters : Int32) (t_listedMany : Int32) (t_listN : Int32) (t_listWhat : Int32) (t_row : Nat → Int32) (t_table : Nat → Int32) (t_twists : Nat → Int32) : va_W := [(h_t, .inr (10, [.int t_thrown, .int t_n, .ref (B_t 2), .int t_modulus, .ref (B_t 4), .ref (B_t 5), .ref (B_t 6), .ref (B_t 7), .ref (B_t 8), .ref (B_t 9), .ref (B_t 10), .int t_rows, .ref (B_t 12), .ref (B_t 13), .ref (B_t 14), .ref (B_t 15), .ref (B_t 16), .ref (B_t 17), .ref (B_t 18), .ref (B_t 19), .int t_strands, .int t_letters, .ref (B_t 22), .ref (B_t 23), .ref (B_t 24), .ref (B_t 25), .int t_listedMany, .int t_listN, .int t_listWhat])), ((B_t 12), .inl (Y 0, 8, .inl t_row)), ((B_t 2), .inl (Y 0, 64, .inl t_table)), ((B_t 4), .inl (Y 0, 64, .inl t_twists))]

set_option maxHeartbeats 20000000 in
set_option maxRecDepth 100000 in
theorem wk_X11_closed {p : Program} {l : Launch} {e : Env} {R : Room} {s : State} {m : MethodId} {args : Array Value} {below : List Frame} {meth : Method} {c : Code} {Q : State → Prop} {G : va_G} {Y : Nat → ClassId} {tF : Nat} {A : Nat → Prop} (h_t : Nat) (B_t : Nat → Nat) (t_thrown : Int32) (t_n : Int32) (t_modulus : Int32) (t_rows : Int32) (t_strands : Int32) (t_letters : Int32) (t_listedMany : Int32) (t_listN : Int32) (t_listWhat : Int32) (t_row : Nat → Int32) (t_table : Nat → Int32) (t_twists : Nat → Int32) {K : Int32 → Int32 → Int32 → (Nat → Int32) → Prop} (hx : p.tables.exec = Jvm.exec) (hb : c.code = cX11_closed) (hml : c.maxLocals = 2) (hown : s.vm.findClass RX11 = some m.cls) (hts : ∀ w ∈ wsX11_closed, w.before args s = true) (hK : va_K G vwCl (tyL Y) s) (hE : Ev A tF s) (hA : ∀ q, s.heap.size ≤ q → A q) (hRf : 3 ≤ R.frames) (hRl : 65 ≤ R.locals) (hret : ∀ (r : Int32) (t_thrown : Int32) (t_rows : Int32) (t_row : Nat → Int32) (H : Heap) (locs : List Loc) (ls : Array Slot) (pc : Nat), va_P G vwCl (w_X11_closed Y h_t B_t t_thrown t_n t_modulus t_rows t_strands t_letters t_listedMany t_listN t_listWhat t_row t_table t_twists) H → va_D A (w_X11_closed Y h_t B_t t_thrown t_n t_modulus t_rows t_strands t_letters t_listedMany t_listN t_listWhat t_row t_table t_twists) → va_S A s.heap H locs → K r t_thrown t_rows t_row → decode cX11_closed pc = .ok (.ireturn, 1) → W p l e R s m args below meth c H locs 0 0 Q (F0 m pc ls [.int r])) (hP : va_P G vwCl (w_X11_closed Y h_t B_t t_thrown t_n t_modulus t_rows t_strands t_letters t_listedMany t_listN t_listWhat t_row t_table t_twists) s.heap) (hD : va_D A (w_X11_closed Y h_t B_t t_thrown t_n t_modulus t_rows t_strands t_letters t_listedMany t_listN t_listWhat t_row t_table t_twists)) (h : pX11_closed t_thrown t_n t_modulus t_rows t_row t_table t_twists K) : W p l e R s m args below meth c s.heap [] 0 0 Q (entryFrame m ([.ref h_t] : List Value).toArray 2) := by
  have inX11 : ∀ w ∈ u_ws RX11 TX11 29, w ∈ wsX11_closed := by decide +kernel
  have hf83 := hts (.fieldLink RX11 83 "RackBenchModel" "thrown" "I") (by decide +kernel)
  have hl := lv_entry ([.ref h_t]) (n := 2) (Nat.le_of_ble_eq_true rfl)
  rw [lg_entry_eq]
  generalize (lg_sl ([.ref h_t]) ++ List.replicate (2 - (lg_sl ([.ref h_t])).length) Slot.unset).toArray = ls at hl ⊢
  have hl : lv_has ls 2 [(0, .ref h_t)] := hl
  generalize hH0 : s.heap = H at hP ⊢
  have hS : va_S A s.heap H [] := by rw [← hH0]; exact va_S.rf
  clear hH0
  generalize ([] : List Loc) = locs at hS ⊢
  refine lv_aload_n hx hb dX11_closed_0 rfl (lv_at hl 0 rfl) ?_
  refine lv_iconst (v := 0) hx hb dX11_closed_1 (by decide) ?_
  refine va_put (D := G) (ci := 10) (v := .int (0 : Int32)) (ty := .int) (C := RX11) (T := TX11) (N := 29) hx hb hts inX11 tyX11 tyX11_ok nmX11 hown hK hP hD hS 0 rfl rfl 0 (by decide) hf83 (fun _ h9 => h9) rfl (by decide +kernel) rfl rfl (Nat.le_of_ble_eq_true rfl) dX11_closed_2 (fun H locs hP hD hS => ?_)
  have hP : va_P G vwCl (w_X11_closed Y h_t B_t (0 : Int32) t_n t_modulus t_rows t_strands t_letters t_listedMany t_listN t_listWhat t_row t_table t_twists) H := hP
  have hD : va_D A (w_X11_closed Y h_t B_t (0 : Int32) t_n t_modulus t_rows t_strands t_letters t_listedMany t_listN t_listWhat t_row t_table t_twists) := hD
  refine lv_aload_n hx hb dX11_closed_5 rfl (lv_at hl 0 rfl) ?_
  refine mc_iV ⟨hx, hb, hml, hown, hts⟩ hK hE hA hP hD hS (c_X11_isRack l G Y tF H.size h_t B_t (0 : Int32) t_n t_modulus t_rows t_strands t_letters t_listedMany t_listN t_listWhat t_table h) (cwV 0 hts gX11_closed_X11_isRack rfl rfl rfl (by decide +kernel) ⟨Nat.le_trans (by decide) hRf, Nat.le_trans (by decide) hRl⟩) (fun u => (w_X11_closed Y h_t B_t (0 : Int32) t_n t_modulus t_rows t_strands t_letters t_listedMany t_listN t_listWhat t_row t_table t_twists)) [0, 2] [1, 3] [2, 0, 3, 1] rfl rfl rfl rfl (by decide) (fun _ => rfl) rfl 0 10 rfl rfl rfl rfl hl.1 rfl (Nat.le_of_ble_eq_true rfl) dX11_closed_6 (fun r6 u H locs h hP hD hS => ?_)
  try dsimp only at h
  have hP : va_P G vwCl (w_X11_closed Y h_t B_t (0 : Int32) t_n t_modulus t_rows t_strands t_letters t_listedMany t_listN t_listWhat t_row t_table t_twists) H := hP
  have hD : va_D A (w_X11_closed Y h_t B_t (0 : Int32) t_n t_modulus t_rows t_strands t_letters t_listedMany t_listN t_listWhat t_row t_table t_twists) := hD
  obtain ⟨ht, hf⟩ := h
  refine lv_if_ne (tgt := 14) hx hb dX11_closed_9 (by decide) (fun c9 => ?_) (fun c9 => ?_)
  · have h := ht c9
    refine lv_aload_n hx hb dX11_closed_14 rfl (lv_at hl 0 rfl) ?_
    refine mc_iV ⟨hx, hb, hml, hown, hts⟩ hK hE hA hP hD hS (c_X11_open l G Y tF H.size h_t B_t (0 : Int32) t_n t_modulus t_rows t_strands t_letters t_listedMany t_listN t_listWhat t_table t_twists h) (cwV 0 hts gX11_closed_X11_open rfl rfl rfl (by decide +kernel) ⟨Nat.le_trans (by decide) hRf, Nat.le_trans (by decide) hRl⟩) (fun u => (w_X11_closed Y h_t B_t (0 : Int32) t_n t_modulus t_rows t_strands t_letters t_listedMany t_listN t_listWhat t_row t_table t_twists)) [0, 2, 3] [1] [1, 0, 2, 3] rfl rfl rfl rfl (by decide) (fun _ => rfl) rfl 0 10 rfl rfl rfl rfl hl.1 rfl (Nat.le_of_ble_eq_true rfl) dX11_closed_15 (fun r15 u H locs h hP hD hS => ?_)
    try dsimp only at h
    have hP : va_P G vwCl (w_X11_closed Y h_t B_t (0 : Int32) t_n t_modulus t_rows t_strands t_letters t_listedMany t_listN t_listWhat t_row t_table t_twists) H := hP
    have hD : va_D A (w_X11_closed Y h_t B_t (0 : Int32) t_n t_modulus t_rows t_strands t_letters t_listedMany t_listN t_listWhat t_row t_table t_twists) := hD
    refine lv_istore_n (lv' := [(1, .int r15), (0, .ref h_t)]) hx hb dX11_closed_18 rfl hl (by decide) rfl (fun ls hl => ?_)
    refine lv_iload_n hx hb dX11_closed_19 rfl (lv_at hl 0 rfl) ?_
    obtain ⟨ht, hf⟩ := h
    refine lv_if_ge (tgt := 25) hx hb dX11_closed_20 (by decide) (fun c9 => ?_) (fun c9 => ?_)
    · have h := ht c9
      refine lv_aload_n hx hb dX11_closed_25 rfl (lv_at hl 1 rfl) ?_
      refine lv_iload_n hx hb dX11_closed_26 rfl (lv_at hl 0 rfl) ?_
      refine mc_vV ⟨hx, hb, hml, hown, hts⟩ hK hE hA hP hD hS (c_X11_tells l G Y tF H.size h_t B_t (0 : Int32) t_n t_modulus t_rows t_strands t_letters t_listedMany t_listN t_listWhat t_row r15 h) (cwV 1 hts gX11_closed_X11_tells rfl rfl rfl (by decide +kernel) ⟨Nat.le_trans (by decide) hRf, Nat.le_trans (by decide) hRl⟩) (fun u => (w_X11_closed Y h_t B_t (0 : Int32) t_n t_modulus u.1 t_strands t_letters t_listedMany t_listN t_listWhat u.2 t_table t_twists)) [0, 1] [2, 3] [2, 3, 0, 1] rfl rfl rfl rfl (by decide) (fun _ => rfl) rfl 0 10 rfl rfl rfl rfl hl.1 rfl (Nat.le_of_ble_eq_true rfl) dX11_closed_27 (fun u H locs h hP hD hS => ?_)
      obtain ⟨t_rows_27, t_row_27⟩ := u
      try dsimp only at h
      have hP : va_P G vwCl (w_X11_closed Y h_t B_t (0 : Int32) t_n t_modulus t_rows_27 t_strands t_letters t_listedMany t_listN t_listWhat t_row_27 t_table t_twists) H := hP
      have hD : va_D A (w_X11_closed Y h_t B_t (0 : Int32) t_n t_modulus t_rows_27 t_strands t_letters t_listedMany t_listN t_listWhat t_row_27 t_table t_twists) := hD
      refine lv_iconst (v := 1) hx hb dX11_closed_30 (by decide) ?_
      exact hret (1 : Int32) (0 : Int32) t_rows_27 t_row_27 H locs ls _ hP hD hS h dX11_closed_31
    · have h := hf c9
      refine lv_iconst (v := 0) hx hb dX11_closed_23 (by decide) ?_
      exact hret (0 : Int32) (0 : Int32) t_rows t_row H locs ls _ hP hD hS h dX11_closed_24
  · have h := hf c9
    refine lv_iconst (v := -1) hx hb dX11_closed_12 (by decide) ?_
    exact hret (-1 : Int32) (0 : Int32) t_rows t_row H locs ls _ hP hD hS h dX11_closed_13

set_option maxHeartbeats 20000000 in
set_option maxRecDepth 100000 in
theorem c_X11_closed (l : Launch) (G : va_G) (Y : Nat → ClassId) (tF sz : Nat) (h_t : Nat) (B_t : Nat → Nat) (t_thrown : Int32) (t_n : Int32) (t_modulus : Int32) (t_rows : Int32) (t_strands : Int32) (t_letters : Int32) (t_listedMany : Int32) (t_listN : Int32) (t_listWhat : Int32) (t_row : Nat → Int32) (t_table : Nat → Int32) (t_twists : Nat → Int32) {K : Int32 → Int32 → Int32 → (Nat → Int32) → Prop} (h : pX11_closed t_thrown t_n t_modulus t_rows t_row t_table t_twists K) : Met l yX11_closed wsX11_closed ({ frames := 3, cells := 0, slots := 0, locals := 65 }) (PcM G Y tF sz (w_X11_closed Y h_t B_t t_thrown t_n t_modulus t_rows t_strands t_letters t_listedMany t_listN t_listWhat t_row t_table t_twists) [.ref h_t]) (va_Qi (fun (r : Int32) (u : Int32 × Int32 × (Nat → Int32)) => K r u.1 u.2.1 u.2.2) (fun u t => BM G Y (va_A (w_X11_closed Y h_t B_t t_thrown t_n t_modulus t_rows t_strands t_letters t_listedMany t_listN t_listWhat t_row t_table t_twists) sz) (w_X11_closed Y h_t B_t u.1 t_n t_modulus u.2.1 t_strands t_letters t_listedMany t_listN t_listWhat u.2.2 t_table t_twists) t) (va_A (w_X11_closed Y h_t B_t t_thrown t_n t_modulus t_rows t_strands t_letters t_listedMany t_listN t_listWhat t_row t_table t_twists) sz)) 0 0 (va_A (w_X11_closed Y h_t B_t t_thrown t_n t_modulus t_rows t_strands t_letters t_listedMany t_listN t_listWhat t_row t_table t_twists) sz) := by
  refine Met.ofW (cc := cX11_closed) (maxL := 2) (ret := (some .int)) (by decide +kernel) rfl ?_
  intro p e s m args below meth c s₁ B hml hv
  obtain ⟨rfl, hsz, hP, hK, hD0, hE⟩ := hv
  have hts := atoms_spec (ws := wsX11_closed) B.pre
  have hown : s.vm.findClass RX11 = some m.cls := findClass_of_methodNamed B.named
  have hlocks := B.notSynchronized
  subst hsz
  have hD := hD0.self (sz := s.heap.size)
  exact wk_X11_closed h_t B_t t_thrown t_n t_modulus t_rows t_strands t_letters t_listedMany t_listN t_listWhat t_row t_table t_twists B.exec B.bytes hml hown hts hK hE (fun q h => Or.inr h) (Nat.le_refl _) (Nat.le_refl _) (fun r t_thrown t_rows t_row H locs ls pc hP hD hS hk hd => W.iret (v := r) B.exec B.bytes B.returns (fun t ht hW => ⟨⟨r, (t_thrown, t_rows, t_row), rfl, hk, by rw [ht]; exact hP, va_K.moved hW.alike hK, hD⟩, hS.F ht⟩) hS.2.2 hd) hP hD h

abbrev w_X11_cover (Y : Nat → ClassId) (h_t : Nat) (B_t : Nat → Nat) (t_thrown : Int32) (t_n : Int32) (t_modulus : Int32) (t_rows : Int32) (t_strands : Int32) (t_letters : Int32) (t_listedMany : Int32) (t_listN : Int32) (t_listWhat : Int32) (t_made : Nat → Int32) (t_table : Nat → Int32) (t_twists : Nat → Int32) : va_W := [(h_t, .inr (10, [.int t_thrown, .int t_n, .ref (B_t 2), .int t_modulus, .ref (B_t 4), .ref (B_t 5), .ref (B_t 6), .ref (B_t 7), .ref (B_t 8), .ref (B_t 9), .ref (B_t 10), .int t_rows, .ref (B_t 12), .ref (B_t 13), .ref (B_t 14), .ref (B_t 15), .ref (B_t 16), .ref (B_t 17), .ref (B_t 18), .ref (B_t 19), .int t_strands, .int t_letters, .ref (B_t 22), .ref (B_t 23), .ref (B_t 24), .ref (B_t 25), .int t_listedMany, .int t_listN, .int t_listWhat])), ((B_t 17), .inl (Y 0, 64, .inl t_made)), ((B_t 2), .inl (Y 0, 64, .inl t_table)), ((B_t 4), .inl (Y 0, 64, .inl t_twists))]

set_option maxHeartbeats 20000000 in
set_option maxRecDepth 100000 in
theorem wk_X11_cover {p : Program} {l : Launch} {e : Env} {R : Room} {s : State} {m : MethodId} {args : Array Value} {below : List Frame} {meth : Method} {c : Code} {Q : State → Prop} {G : va_G} {Y : Nat → ClassId} {tF : Nat} {A : Nat → Prop} (h_t : Nat) (B_t : Nat → Nat) (t_thrown : Int32) (t_n : Int32) (t_modulus : Int32) (t_rows : Int32) (t_strands : Int32) (t_letters : Int32) (t_listedMany : Int32) (t_listN : Int32) (t_listWhat : Int32) (t_made : Nat → Int32) (t_table : Nat → Int32) (t_twists : Nat → Int32) {K : Int32 → Int32 → Int32 → (Nat → Int32) → (Nat → Int32) → (Nat → Int32) → Prop} (hx : p.tables.exec = Jvm.exec) (hb : c.code = cX11_cover) (hml : c.maxLocals = 5) (hown : s.vm.findClass RX11 = some m.cls) (hts : ∀ w ∈ wsX11_cover, w.before args s = true) (hK : va_K G vwCl (tyL Y) s) (hE : Ev A tF s) (hA : ∀ q, s.heap.size ≤ q → A q) (hRf : 3 ≤ R.frames) (hRl : 65 ≤ R.locals) (hret : ∀ (r : Int32) (t_thrown : Int32) (t_n : Int32) (t_made : Nat → Int32) (t_table : Nat → Int32) (t_twists : Nat → Int32) (H : Heap) (locs : List Loc) (ls : Array Slot) (pc : Nat), va_P G vwCl (w_X11_cover Y h_t B_t t_thrown t_n t_modulus t_rows t_strands t_letters t_listedMany t_listN t_listWhat t_made t_table t_twists) H → va_D A (w_X11_cover Y h_t B_t t_thrown t_n t_modulus t_rows t_strands t_letters t_listedMany t_listN t_listWhat t_made t_table t_twists) → va_S A s.heap H locs → K r t_thrown t_n t_made t_table t_twists → decode cX11_cover pc = .ok (.ireturn, 1) → W p l e R s m args below meth c H locs 0 0 Q (F0 m pc ls [.int r])) (hP : va_P G vwCl (w_X11_cover Y h_t B_t t_thrown t_n t_modulus t_rows t_strands t_letters t_listedMany t_listN t_listWhat t_made t_table t_twists) s.heap) (hD : va_D A (w_X11_cover Y h_t B_t t_thrown t_n t_modulus t_rows t_strands t_letters t_listedMany t_listN t_listWhat t_made t_table t_twists)) (h : pX11_cover t_thrown t_n t_modulus t_made t_table t_twists K) : W p l e R s m args below meth c s.heap [] 0 0 Q (entryFrame m ([.ref h_t] : List Value).toArray 5) := by
  have inX11 : ∀ w ∈ u_ws RX11 TX11 29, w ∈ wsX11_cover := by decide +kernel
  have hf17 := hts (.fieldLink RX11 17 "RackBenchModel" "modulus" "I") (by decide +kernel)
  have hf58 := hts (.fieldLink RX11 58 "RackBenchModel" "made" "[I") (by decide +kernel)
  have hf83 := hts (.fieldLink RX11 83 "RackBenchModel" "thrown" "I") (by decide +kernel)
  have hf9 := hts (.fieldLink RX11 9 "RackBenchModel" "n" "I") (by decide +kernel)
  have hl := lv_entry ([.ref h_t]) (n := 5) (Nat.le_of_ble_eq_true rfl)
  rw [lg_entry_eq]
  generalize (lg_sl ([.ref h_t]) ++ List.replicate (5 - (lg_sl ([.ref h_t])).length) Slot.unset).toArray = ls at hl ⊢
  have hl : lv_has ls 5 [(0, .ref h_t)] := hl
  generalize hH0 : s.heap = H at hP ⊢
  have hS : va_S A s.heap H [] := by rw [← hH0]; exact va_S.rf
  clear hH0
  generalize ([] : List Loc) = locs at hS ⊢
  refine lv_aload_n hx hb dX11_cover_0 rfl (lv_at hl 0 rfl) ?_
  refine lv_iconst (v := 0) hx hb dX11_cover_1 (by decide) ?_
  refine va_put (D := G) (ci := 10) (v := .int (0 : Int32)) (ty := .int) (C := RX11) (T := TX11) (N := 29) hx hb hts inX11 tyX11 tyX11_ok nmX11 hown hK hP hD hS 0 rfl rfl 0 (by decide) hf83 (fun _ h9 => h9) rfl (by decide +kernel) rfl rfl (Nat.le_of_ble_eq_true rfl) dX11_cover_2 (fun H locs hP hD hS => ?_)
  have hP : va_P G vwCl (w_X11_cover Y h_t B_t (0 : Int32) t_n t_modulus t_rows t_strands t_letters t_listedMany t_listN t_listWhat t_made t_table t_twists) H := hP
  have hD : va_D A (w_X11_cover Y h_t B_t (0 : Int32) t_n t_modulus t_rows t_strands t_letters t_listedMany t_listN t_listWhat t_made t_table t_twists) := hD
  refine lv_aload_n hx hb dX11_cover_5 rfl (lv_at hl 0 rfl) ?_
  refine va_get (D := G) (ci := 10) (v := .int t_n) (C := RX11) (T := TX11) (N := 29) hx hb hts inX11 hown hK hP 0 rfl rfl 1 (by decide) hf9 (fun _ h9 => h9) rfl dX11_cover_6 ?_
  refine lv_aload_n hx hb dX11_cover_9 rfl (lv_at hl 0 rfl) ?_
  refine va_get (D := G) (ci := 10) (v := .int t_modulus) (C := RX11) (T := TX11) (N := 29) hx hb hts inX11 hown hK hP 0 rfl rfl 3 (by decide) hf17 (fun _ h9 => h9) rfl dX11_cover_10 ?_
  refine lv_imul hx hb dX11_cover_13 ?_
  refine lv_bipush (v := 8) hx hb dX11_cover_14 (by decide) ?_
  obtain ⟨ht, hf⟩ := h
  refine lv_icmp_gt (tgt := 33) hx hb dX11_cover_16 (by decide) (fun c9 => ?_) (fun c9 => ?_)
  · have h := ht c9
    refine lv_iconst (v := -1) hx hb dX11_cover_33 (by decide) ?_
    exact hret (-1 : Int32) (0 : Int32) t_n t_made t_table t_twists H locs ls _ hP hD hS h dX11_cover_34
  · have h := hf c9
    refine lv_aload_n hx hb dX11_cover_19 rfl (lv_at hl 0 rfl) ?_
    refine mc_iV ⟨hx, hb, hml, hown, hts⟩ hK hE hA hP hD hS (c_X11_isRack l G Y tF H.size h_t B_t (0 : Int32) t_n t_modulus t_rows t_strands t_letters t_listedMany t_listN t_listWhat t_table h) (cwV 0 hts gX11_cover_X11_isRack rfl rfl rfl (by decide +kernel) ⟨Nat.le_trans (by decide) hRf, Nat.le_trans (by decide) hRl⟩) (fun u => (w_X11_cover Y h_t B_t (0 : Int32) t_n t_modulus t_rows t_strands t_letters t_listedMany t_listN t_listWhat t_made t_table t_twists)) [0, 2] [1, 3] [2, 0, 3, 1] rfl rfl rfl rfl (by decide) (fun _ => rfl) rfl 0 10 rfl rfl rfl rfl hl.1 rfl (Nat.le_of_ble_eq_true rfl) dX11_cover_20 (fun r20 u H locs h hP hD hS => ?_)
    try dsimp only at h
    have hP : va_P G vwCl (w_X11_cover Y h_t B_t (0 : Int32) t_n t_modulus t_rows t_strands t_letters t_listedMany t_listN t_listWhat t_made t_table t_twists) H := hP
    have hD : va_D A (w_X11_cover Y h_t B_t (0 : Int32) t_n t_modulus t_rows t_strands t_letters t_listedMany t_listN t_listWhat t_made t_table t_twists) := hD
    obtain ⟨ht, hf⟩ := h
    refine lv_if_eq (tgt := 33) hx hb dX11_cover_23 (by decide) (fun c9 => ?_) (fun c9 => ?_)
    · have h := ht c9
      refine lv_iconst (v := -1) hx hb dX11_cover_33 (by decide) ?_
      exact hret (-1 : Int32) (0 : Int32) t_n t_made t_table t_twists H locs ls _ hP hD hS h dX11_cover_34
    · have h := hf c9
      refine lv_aload_n hx hb dX11_cover_26 rfl (lv_at hl 0 rfl) ?_
      refine mc_iV ⟨hx, hb, hml, hown, hts⟩ hK hE hA hP hD hS (c_X11_open l G Y tF H.size h_t B_t (0 : Int32) t_n t_modulus t_rows t_strands t_letters t_listedMany t_listN t_listWhat t_table t_twists h) (cwV 0 hts gX11_cover_X11_open rfl rfl rfl (by decide +kernel) ⟨Nat.le_trans (by decide) hRf, Nat.le_trans (by decide) hRl⟩) (fun u => (w_X11_cover Y h_t B_t (0 : Int32) t_n t_modulus t_rows t_strands t_letters t_listedMany t_listN t_listWhat t_made t_table t_twists)) [0, 2, 3] [1] [1, 0, 2, 3] rfl rfl rfl rfl (by decide) (fun _ => rfl) rfl 0 10 rfl rfl rfl rfl hl.1 rfl (Nat.le_of_ble_eq_true rfl) dX11_cover_27 (fun r27 u H locs h hP hD hS => ?_)
      try dsimp only at h
      have hP : va_P G vwCl (w_X11_cover Y h_t B_t (0 : Int32) t_n t_modulus t_rows t_strands t_letters t_listedMany t_listN t_listWhat t_made t_table t_twists) H := hP
      have hD : va_D A (w_X11_cover Y h_t B_t (0 : Int32) t_n t_modulus t_rows t_strands t_letters t_listedMany t_listN t_listWhat t_made t_table t_twists) := hD
      obtain ⟨ht, hf⟩ := h
      refine lv_if_lt (tgt := 35) hx hb dX11_cover_30 (by decide) (fun c9 => ?_) (fun c9 => ?_)
      · have h := ht c9
        refine lv_aload_n hx hb dX11_cover_35 rfl (lv_at hl 0 rfl) ?_
        refine va_get (D := G) (ci := 10) (v := .int t_modulus) (C := RX11) (T := TX11) (N := 29) hx hb hts inX11 hown hK hP 0 rfl rfl 3 (by decide) hf17 (fun _ h9 => h9) rfl dX11_cover_36 ?_
        refine lv_istore_n (lv' := [(1, .int t_modulus), (0, .ref h_t)]) hx hb dX11_cover_39 rfl hl (by decide) rfl (fun ls hl => ?_)
        refine lv_aload_n hx hb dX11_cover_40 rfl (lv_at hl 1 rfl) ?_
        refine va_get (D := G) (ci := 10) (v := .int t_n) (C := RX11) (T := TX11) (N := 29) hx hb hts inX11 hown hK hP 0 rfl rfl 1 (by decide) hf9 (fun _ h9 => h9) rfl dX11_cover_41 ?_
        refine lv_iload_n hx hb dX11_cover_44 rfl (lv_at hl 0 rfl) ?_
        refine lv_imul hx hb dX11_cover_45 ?_
        refine lv_istore_n (lv' := [(2, .int (t_n * t_modulus)), (1, .int t_modulus), (0, .ref h_t)]) hx hb dX11_cover_46 rfl hl (by decide) rfl (fun ls hl => ?_)
        refine lv_iconst (v := 0) hx hb dX11_cover_47 (by decide) ?_
        refine lv_istore_n (lv' := [(3, .int (0 : Int32)), (2, .int (t_n * t_modulus)), (1, .int t_modulus), (0, .ref h_t)]) hx hb dX11_cover_48 rfl hl (by decide) rfl (fun ls hl => ?_)
        obtain ⟨I49, m49, hI49, hB49⟩ := h
        have L49 : ∀ (x1 : Int32) (x2 : Int32) (t_thrown : Int32) (t_n : Int32) (t_table : Nat → Int32) (t_twists : Nat → Int32) (I49 : Int32 → (Nat → Int32) → Prop) (m49 : Int32 → (Nat → Int32) → Nat), (∀ (x3 : Int32) (t_made : Nat → Int32), I49 x3 t_made → pX11_cover_49 t_modulus K x1 x2 t_thrown t_n t_table t_twists x3 t_made (fun x3' t_made' => I49 x3' t_made' ∧ m49 x3' t_made' < m49 x3 t_made)) → ∀ (n : Nat) (x3 : Int32) (t_made : Nat → Int32) (H : Heap) (locs : List Loc) (ls : Array Slot), I49 x3 t_made → m49 x3 t_made < n → va_P G vwCl (w_X11_cover Y h_t B_t t_thrown t_n t_modulus t_rows t_strands t_letters t_listedMany t_listN t_listWhat t_made t_table t_twists) H → va_D A (w_X11_cover Y h_t B_t t_thrown t_n t_modulus t_rows t_strands t_letters t_listedMany t_listN t_listWhat t_made t_table t_twists) → va_S A s.heap H locs → lv_has ls 5 [(0, .ref h_t), (1, .int x1), (2, .int x2), (3, .int x3)] → W p l e R s m args below meth c H locs 0 0 Q (F0 m 49 ls []) := by
          intro x1 x2 t_thrown t_n t_table t_twists I49 m49 hB49 n
          induction n with
          | zero => intro x3 t_made H locs ls _ hm; exact absurd hm (Nat.not_lt_zero _)
          | succ n ih =>
            intro x3 t_made H locs ls hI hm hP hD hS hl
            obtain ⟨R49, h, rec49⟩ : ∃ R49 : Int32 → (Nat → Int32) → Prop, pX11_cover_49 t_modulus K x1 x2 t_thrown t_n t_table t_twists x3 t_made R49 ∧ ∀ (x3 : Int32) (t_made : Nat → Int32) (H : Heap) (locs : List Loc) (ls : Array Slot), R49 x3 t_made → va_P G vwCl (w_X11_cover Y h_t B_t t_thrown t_n t_modulus t_rows t_strands t_letters t_listedMany t_listN t_listWhat t_made t_table t_twists) H → va_D A (w_X11_cover Y h_t B_t t_thrown t_n t_modulus t_rows t_strands t_letters t_listedMany t_listN t_listWhat t_made t_table t_twists) → va_S A s.heap H locs → lv_has ls 5 [(0, .ref h_t), (1, .int x1), (2, .int x2), (3, .int x3)] → W p l e R s m args below meth c H locs 0 0 Q (F0 m 49 ls []) := ⟨_, hB49 x3 t_made hI, fun x3 t_made H locs ls hh hP hD hS hl => ih x3 t_made H locs ls hh.1 (Nat.lt_of_lt_of_le hh.2 (Nat.le_of_lt_succ hm)) hP hD hS hl⟩
            refine lv_iload_n hx hb dX11_cover_49 rfl (lv_at hl 3 rfl) ?_
            refine lv_iload_n hx hb dX11_cover_50 rfl (lv_at hl 2 rfl) ?_
            obtain ⟨ht, hf⟩ := h
            refine lv_icmp_ge (tgt := 119) hx hb dX11_cover_51 (by decide) (fun c9 => ?_) (fun c9 => ?_)
            · have h := ht c9
              refine lv_aload_n hx hb dX11_cover_119 rfl (lv_at hl 0 rfl) ?_
              refine lv_iload_n hx hb dX11_cover_120 rfl (lv_at hl 2 rfl) ?_
              refine mc_vV ⟨hx, hb, hml, hown, hts⟩ hK hE hA hP hD hS (c_X11_becomes l G Y tF H.size h_t B_t t_thrown t_n t_modulus t_rows t_strands t_letters t_listedMany t_listN t_listWhat t_made t_table t_twists x2 h) (cwV 1 hts gX11_cover_X11_becomes rfl rfl rfl (by decide +kernel) ⟨Nat.le_trans (by decide) hRf, Nat.le_trans (by decide) hRl⟩) (fun u => (w_X11_cover Y h_t B_t t_thrown u.1 t_modulus t_rows t_strands t_letters t_listedMany t_listN t_listWhat t_made u.2.1 u.2.2)) [0, 1, 2, 3] [] [0, 1, 2, 3] rfl rfl rfl rfl (by decide) (fun _ => rfl) rfl 0 10 rfl rfl rfl rfl hl.1 rfl (Nat.le_of_ble_eq_true rfl) dX11_cover_121 (fun u H locs h hP hD hS => ?_)
              obtain ⟨t_n_121, t_table_121, t_twists_121⟩ := u
              try dsimp only at h
              have hP : va_P G vwCl (w_X11_cover Y h_t B_t t_thrown t_n_121 t_modulus t_rows t_strands t_letters t_listedMany t_listN t_listWhat t_made t_table_121 t_twists_121) H := hP
              have hD : va_D A (w_X11_cover Y h_t B_t t_thrown t_n_121 t_modulus t_rows t_strands t_letters t_listedMany t_listN t_listWhat t_made t_table_121 t_twists_121) := hD
              refine lv_aload_n hx hb dX11_cover_124 rfl (lv_at hl 0 rfl) ?_
              refine va_get (D := G) (ci := 10) (v := .int t_n_121) (C := RX11) (T := TX11) (N := 29) hx hb hts inX11 hown hK hP 0 rfl rfl 1 (by decide) hf9 (fun _ h9 => h9) rfl dX11_cover_125 ?_
              exact hret t_n_121 t_thrown t_n_121 t_made t_table_121 t_twists_121 H locs ls _ hP hD hS h dX11_cover_128
            · have h := hf c9
              refine lv_iconst (v := 0) hx hb dX11_cover_54 (by decide) ?_
              refine lv_istore (lv' := [(4, .int (0 : Int32)), (0, .ref h_t), (1, .int x1), (2, .int x2), (3, .int x3)]) hx hb dX11_cover_55 hl (by decide) rfl (fun ls hl => ?_)
              obtain ⟨I57, m57, hI57, hB57⟩ := h
              have L57 : ∀ (x3 : Int32) (I57 : Int32 → (Nat → Int32) → Prop) (m57 : Int32 → (Nat → Int32) → Nat), (∀ (x4 : Int32) (t_made : Nat → Int32), I57 x4 t_made → pX11_cover_57 t_modulus R49 K x1 x2 t_thrown t_n t_table t_twists x3 x4 t_made (fun x4' t_made' => I57 x4' t_made' ∧ m57 x4' t_made' < m57 x4 t_made)) → ∀ (n : Nat) (x4 : Int32) (t_made : Nat → Int32) (H : Heap) (locs : List Loc) (ls : Array Slot), I57 x4 t_made → m57 x4 t_made < n → va_P G vwCl (w_X11_cover Y h_t B_t t_thrown t_n t_modulus t_rows t_strands t_letters t_listedMany t_listN t_listWhat t_made t_table t_twists) H → va_D A (w_X11_cover Y h_t B_t t_thrown t_n t_modulus t_rows t_strands t_letters t_listedMany t_listN t_listWhat t_made t_table t_twists) → va_S A s.heap H locs → lv_has ls 5 [(0, .ref h_t), (1, .int x1), (2, .int x2), (3, .int x3), (4, .int x4)] → W p l e R s m args below meth c H locs 0 0 Q (F0 m 57 ls []) := by
                intro x3 I57 m57 hB57 n
                induction n with
                | zero => intro x4 t_made H locs ls _ hm; exact absurd hm (Nat.not_lt_zero _)
                | succ n ih =>
                  intro x4 t_made H locs ls hI hm hP hD hS hl
                  obtain ⟨R57, h, rec57⟩ : ∃ R57 : Int32 → (Nat → Int32) → Prop, pX11_cover_57 t_modulus R49 K x1 x2 t_thrown t_n t_table t_twists x3 x4 t_made R57 ∧ ∀ (x4 : Int32) (t_made : Nat → Int32) (H : Heap) (locs : List Loc) (ls : Array Slot), R57 x4 t_made → va_P G vwCl (w_X11_cover Y h_t B_t t_thrown t_n t_modulus t_rows t_strands t_letters t_listedMany t_listN t_listWhat t_made t_table t_twists) H → va_D A (w_X11_cover Y h_t B_t t_thrown t_n t_modulus t_rows t_strands t_letters t_listedMany t_listN t_listWhat t_made t_table t_twists) → va_S A s.heap H locs → lv_has ls 5 [(0, .ref h_t), (1, .int x1), (2, .int x2), (3, .int x3), (4, .int x4)] → W p l e R s m args below meth c H locs 0 0 Q (F0 m 57 ls []) := ⟨_, hB57 x4 t_made hI, fun x4 t_made H locs ls hh hP hD hS hl => ih x4 t_made H locs ls hh.1 (Nat.lt_of_lt_of_le hh.2 (Nat.le_of_lt_succ hm)) hP hD hS hl⟩
                  refine lv_iload hx hb dX11_cover_57 (lv_at hl 4 rfl) ?_
                  refine lv_iload_n hx hb dX11_cover_59 rfl (lv_at hl 2 rfl) ?_
                  obtain ⟨ht, hf⟩ := h
                  refine lv_icmp_ge (tgt := 113) hx hb dX11_cover_60 (by decide) (fun c9 => ?_) (fun c9 => ?_)
                  · have h := ht c9
                    refine lv_iinc (v := (x3 + 1)) (lv' := [(3, .int (x3 + 1)), (0, .ref h_t), (1, .int x1), (2, .int x2), (4, .int x4)]) hx hb dX11_cover_113 hl (k := 3) rfl rfl (by decide) rfl (fun ls hl => ?_)
                    refine lv_goto (tgt := 49) hx hb dX11_cover_116 (by decide) ?_
                    exact rec49 (x3 + 1) t_made H locs ls h hP hD hS (lv_sub hl [1, 2, 3, 0] rfl)
                  · have h := hf c9
                    refine lv_aload_n hx hb dX11_cover_63 rfl (lv_at hl 0 rfl) ?_
                    refine va_get (D := G) (ci := 10) (v := .ref (B_t 17)) (C := RX11) (T := TX11) (N := 29) hx hb hts inX11 hown hK hP 0 rfl rfl 17 (by decide) hf58 (fun _ h9 => h9) rfl dX11_cover_64 ?_
                    refine lv_bipush (v := 8) hx hb dX11_cover_67 (by decide) ?_
                    refine lv_iload_n hx hb dX11_cover_69 rfl (lv_at hl 3 rfl) ?_
                    refine lv_imul hx hb dX11_cover_70 ?_
                    refine lv_iload hx hb dX11_cover_71 (lv_at hl 4 rfl) ?_
                    refine lv_iadd hx hb dX11_cover_73 ?_
                    refine lv_iload_n hx hb dX11_cover_74 rfl (lv_at hl 1 rfl) ?_
                    refine lv_aload_n hx hb dX11_cover_75 rfl (lv_at hl 0 rfl) ?_
                    refine lv_iload_n hx hb dX11_cover_76 rfl (lv_at hl 3 rfl) ?_
                    refine lv_iload_n hx hb dX11_cover_77 rfl (lv_at hl 1 rfl) ?_
                    obtain ⟨hne, h⟩ := h
                    refine lv_idiv hx hb dX11_cover_78 hne ?_
                    refine lv_iload hx hb dX11_cover_79 (lv_at hl 4 rfl) ?_
                    refine lv_iload_n hx hb dX11_cover_81 rfl (lv_at hl 1 rfl) ?_
                    obtain ⟨hne, h⟩ := h
                    refine lv_idiv hx hb dX11_cover_82 hne ?_
                    refine mc_iV ⟨hx, hb, hml, hown, hts⟩ hK hE hA hP hD hS (c_X11_by l G Y tF H.size h_t B_t t_thrown t_n t_modulus t_rows t_strands t_letters t_listedMany t_listN t_listWhat t_table (x3 / x1) (x4 / x1) h) (cwV 2 hts gX11_cover_X11_by rfl rfl rfl (by decide +kernel) ⟨Nat.le_trans (by decide) hRf, Nat.le_trans (by decide) hRl⟩) (fun u => (w_X11_cover Y h_t B_t t_thrown t_n t_modulus t_rows t_strands t_letters t_listedMany t_listN t_listWhat t_made t_table t_twists)) [0, 2] [1, 3] [2, 0, 3, 1] rfl rfl rfl rfl (by decide) (fun _ => rfl) rfl 0 10 rfl rfl rfl rfl hl.1 rfl (Nat.le_of_ble_eq_true rfl) dX11_cover_83 (fun r83 u H locs h hP hD hS => ?_)
                    try dsimp only at h
                    have hP : va_P G vwCl (w_X11_cover Y h_t B_t t_thrown t_n t_modulus t_rows t_strands t_letters t_listedMany t_listN t_listWhat t_made t_table t_twists) H := hP
                    have hD : va_D A (w_X11_cover Y h_t B_t t_thrown t_n t_modulus t_rows t_strands t_letters t_listedMany t_listN t_listWhat t_made t_table t_twists) := hD
                    refine lv_imul hx hb dX11_cover_86 ?_
                    refine lv_iload hx hb dX11_cover_87 (lv_at hl 4 rfl) ?_
                    refine lv_iload_n hx hb dX11_cover_89 rfl (lv_at hl 1 rfl) ?_
                    obtain ⟨hne, h⟩ := h
                    refine lv_irem hx hb dX11_cover_90 hne ?_
                    refine lv_aload_n hx hb dX11_cover_91 rfl (lv_at hl 0 rfl) ?_
                    refine lv_iload_n hx hb dX11_cover_92 rfl (lv_at hl 3 rfl) ?_
                    refine lv_iload_n hx hb dX11_cover_93 rfl (lv_at hl 1 rfl) ?_
                    obtain ⟨hne, h⟩ := h
                    refine lv_idiv hx hb dX11_cover_94 hne ?_
                    refine lv_iload hx hb dX11_cover_95 (lv_at hl 4 rfl) ?_
                    refine lv_iload_n hx hb dX11_cover_97 rfl (lv_at hl 1 rfl) ?_
                    obtain ⟨hne, h⟩ := h
                    refine lv_idiv hx hb dX11_cover_98 hne ?_
                    refine mc_iV ⟨hx, hb, hml, hown, hts⟩ hK hE hA hP hD hS (c_X11_twistOf l G Y tF H.size h_t B_t t_thrown t_n t_modulus t_rows t_strands t_letters t_listedMany t_listN t_listWhat t_twists (x3 / x1) (x4 / x1) h) (cwV 2 hts gX11_cover_X11_twistOf rfl rfl rfl (by decide +kernel) ⟨Nat.le_trans (by decide) hRf, Nat.le_trans (by decide) hRl⟩) (fun u => (w_X11_cover Y h_t B_t t_thrown t_n t_modulus t_rows t_strands t_letters t_listedMany t_listN t_listWhat t_made t_table t_twists)) [0, 3] [1, 2] [2, 0, 1, 3] rfl rfl rfl rfl (by decide) (fun _ => rfl) rfl 0 10 rfl rfl rfl rfl hl.1 rfl (Nat.le_of_ble_eq_true rfl) dX11_cover_99 (fun r99 u H locs h hP hD hS => ?_)
                    try dsimp only at h
                    have hP : va_P G vwCl (w_X11_cover Y h_t B_t t_thrown t_n t_modulus t_rows t_strands t_letters t_listedMany t_listN t_listWhat t_made t_table t_twists) H := hP
                    have hD : va_D A (w_X11_cover Y h_t B_t t_thrown t_n t_modulus t_rows t_strands t_letters t_listedMany t_listN t_listWhat t_made t_table t_twists) := hD
                    refine lv_iadd hx hb dX11_cover_102 ?_
                    refine lv_iload_n hx hb dX11_cover_103 rfl (lv_at hl 1 rfl) ?_
                    obtain ⟨hne, h⟩ := h
                    refine lv_irem hx hb dX11_cover_104 hne ?_
                    refine lv_iadd hx hb dX11_cover_105 ?_
                    obtain ⟨hin, h⟩ := h
                    refine va_iast hx hb hK hP hD hS 1 0 rfl rfl hin dX11_cover_106 (fun H locs hP hD hS => ?_)
                    have hP : va_P G vwCl (w_X11_cover Y h_t B_t t_thrown t_n t_modulus t_rows t_strands t_letters t_listedMany t_listN t_listWhat (upd t_made (Int32.toNatClampNeg (((8 : Int32) * x3) + x4)) ((x1 * r83) + (((x4 - x4 / x1 * x1) + r99) - ((x4 - x4 / x1 * x1) + r99) / x1 * x1))) t_table t_twists) H := hP
                    have hD : va_D A (w_X11_cover Y h_t B_t t_thrown t_n t_modulus t_rows t_strands t_letters t_listedMany t_listN t_listWhat (upd t_made (Int32.toNatClampNeg (((8 : Int32) * x3) + x4)) ((x1 * r83) + (((x4 - x4 / x1 * x1) + r99) - ((x4 - x4 / x1 * x1) + r99) / x1 * x1))) t_table t_twists) := hD
                    refine lv_iinc (v := (x4 + 1)) (lv' := [(4, .int (x4 + 1)), (0, .ref h_t), (1, .int x1), (2, .int x2), (3, .int x3)]) hx hb dX11_cover_107 hl (k := 4) rfl rfl (by decide) rfl (fun ls hl => ?_)
                    refine lv_goto (tgt := 57) hx hb dX11_cover_110 (by decide) ?_
                    exact rec57 (x4 + 1) (upd t_made (Int32.toNatClampNeg (((8 : Int32) * x3) + x4)) ((x1 * r83) + (((x4 - x4 / x1 * x1) + r99) - ((x4 - x4 / x1 * x1) + r99) / x1 * x1))) H locs ls h hP hD hS (lv_sub hl [1, 2, 3, 4, 0] rfl)
              exact L57 x3 I57 m57 hB57 _ (0 : Int32) t_made H locs ls hI57 (Nat.lt_succ_self _) hP hD hS (lv_sub hl [1, 2, 3, 4, 0] rfl)
        exact L49 t_modulus (t_n * t_modulus) (0 : Int32) t_n t_table t_twists I49 m49 hB49 _ (0 : Int32) t_made H locs ls hI49 (Nat.lt_succ_self _) hP hD hS (lv_sub hl [3, 2, 1, 0] rfl)
      · have h := hf c9
        refine lv_iconst (v := -1) hx hb dX11_cover_33 (by decide) ?_
        exact hret (-1 : Int32) (0 : Int32) t_n t_made t_table t_twists H locs ls _ hP hD hS h dX11_cover_34

set_option maxHeartbeats 20000000 in
set_option maxRecDepth 100000 in
theorem c_X11_cover (l : Launch) (G : va_G) (Y : Nat → ClassId) (tF sz : Nat) (h_t : Nat) (B_t : Nat → Nat) (t_thrown : Int32) (t_n : Int32) (t_modulus : Int32) (t_rows : Int32) (t_strands : Int32) (t_letters : Int32) (t_listedMany : Int32) (t_listN : Int32) (t_listWhat : Int32) (t_made : Nat → Int32) (t_table : Nat → Int32) (t_twists : Nat → Int32) {K : Int32 → Int32 → Int32 → (Nat → Int32) → (Nat → Int32) → (Nat → Int32) → Prop} (h : pX11_cover t_thrown t_n t_modulus t_made t_table t_twists K) : Met l yX11_cover wsX11_cover ({ frames := 3, cells := 0, slots := 0, locals := 65 }) (PcM G Y tF sz (w_X11_cover Y h_t B_t t_thrown t_n t_modulus t_rows t_strands t_letters t_listedMany t_listN t_listWhat t_made t_table t_twists) [.ref h_t]) (va_Qi (fun (r : Int32) (u : Int32 × Int32 × (Nat → Int32) × (Nat → Int32) × (Nat → Int32)) => K r u.1 u.2.1 u.2.2.1 u.2.2.2.1 u.2.2.2.2) (fun u t => BM G Y (va_A (w_X11_cover Y h_t B_t t_thrown t_n t_modulus t_rows t_strands t_letters t_listedMany t_listN t_listWhat t_made t_table t_twists) sz) (w_X11_cover Y h_t B_t u.1 u.2.1 t_modulus t_rows t_strands t_letters t_listedMany t_listN t_listWhat u.2.2.1 u.2.2.2.1 u.2.2.2.2) t) (va_A (w_X11_cover Y h_t B_t t_thrown t_n t_modulus t_rows t_strands t_letters t_listedMany t_listN t_listWhat t_made t_table t_twists) sz)) 0 0 (va_A (w_X11_cover Y h_t B_t t_thrown t_n t_modulus t_rows t_strands t_letters t_listedMany t_listN t_listWhat t_made t_table t_twists) sz) := by
  refine Met.ofW (cc := cX11_cover) (maxL := 5) (ret := (some .int)) (by decide +kernel) rfl ?_
  intro p e s m args below meth c s₁ B hml hv
  obtain ⟨rfl, hsz, hP, hK, hD0, hE⟩ := hv
  have hts := atoms_spec (ws := wsX11_cover) B.pre
  have hown : s.vm.findClass RX11 = some m.cls := findClass_of_methodNamed B.named
  have hlocks := B.notSynchronized
  subst hsz
  have hD := hD0.self (sz := s.heap.size)
  exact wk_X11_cover h_t B_t t_thrown t_n t_modulus t_rows t_strands t_letters t_listedMany t_listN t_listWhat t_made t_table t_twists B.exec B.bytes hml hown hts hK hE (fun q h => Or.inr h) (Nat.le_refl _) (Nat.le_refl _) (fun r t_thrown t_n t_made t_table t_twists H locs ls pc hP hD hS hk hd => W.iret (v := r) B.exec B.bytes B.returns (fun t ht hW => ⟨⟨r, (t_thrown, t_n, t_made, t_table, t_twists), rfl, hk, by rw [ht]; exact hP, va_K.moved hW.alike hK, hD⟩, hS.F ht⟩) hS.2.2 hd) hP hD h

abbrev w_X11_rank (Y : Nat → ClassId) (h_t : Nat) (B_t : Nat → Nat) (t_thrown : Int32) (t_n : Int32) (t_modulus : Int32) (t_rows : Int32) (t_strands : Int32) (t_letters : Int32) (t_listedMany : Int32) (t_listN : Int32) (t_listWhat : Int32) (t_equations : Nat → Int32) : va_W := [(h_t, .inr (10, [.int t_thrown, .int t_n, .ref (B_t 2), .int t_modulus, .ref (B_t 4), .ref (B_t 5), .ref (B_t 6), .ref (B_t 7), .ref (B_t 8), .ref (B_t 9), .ref (B_t 10), .int t_rows, .ref (B_t 12), .ref (B_t 13), .ref (B_t 14), .ref (B_t 15), .ref (B_t 16), .ref (B_t 17), .ref (B_t 18), .ref (B_t 19), .int t_strands, .int t_letters, .ref (B_t 22), .ref (B_t 23), .ref (B_t 24), .ref (B_t 25), .int t_listedMany, .int t_listN, .int t_listWhat])), ((B_t 19), .inl (Y 0, 32768, .inl t_equations))]

set_option maxHeartbeats 20000000 in
set_option maxRecDepth 100000 in
theorem wk_X11_rank {p : Program} {l : Launch} {e : Env} {R : Room} {s : State} {m : MethodId} {args : Array Value} {below : List Frame} {meth : Method} {c : Code} {Q : State → Prop} {G : va_G} {Y : Nat → ClassId} {tF : Nat} {A : Nat → Prop} (h_t : Nat) (B_t : Nat → Nat) (t_thrown : Int32) (t_n : Int32) (t_modulus : Int32) (t_rows : Int32) (t_strands : Int32) (t_letters : Int32) (t_listedMany : Int32) (t_listN : Int32) (t_listWhat : Int32) (t_equations : Nat → Int32) (x1 : Int32) (x2 : Int32) {K : Int32 → (Nat → Int32) → Prop} (hx : p.tables.exec = Jvm.exec) (hb : c.code = cX11_rank) (hml : c.maxLocals = 10) (hown : s.vm.findClass RX11 = some m.cls) (hts : ∀ w ∈ wsX11_rank, w.before args s = true) (hK : va_K G vwCl (tyL Y) s) (hE : Ev A tF s) (hA : ∀ q, s.heap.size ≤ q → A q) (hRf : 1 ≤ R.frames) (hRl : 22 ≤ R.locals) (hret : ∀ (r : Int32) (t_equations : Nat → Int32) (H : Heap) (locs : List Loc) (ls : Array Slot) (pc : Nat), va_P G vwCl (w_X11_rank Y h_t B_t t_thrown t_n t_modulus t_rows t_strands t_letters t_listedMany t_listN t_listWhat t_equations) H → va_D A (w_X11_rank Y h_t B_t t_thrown t_n t_modulus t_rows t_strands t_letters t_listedMany t_listN t_listWhat t_equations) → va_S A s.heap H locs → K r t_equations → decode cX11_rank pc = .ok (.ireturn, 1) → W p l e R s m args below meth c H locs 0 0 Q (F0 m pc ls [.int r])) (hP : va_P G vwCl (w_X11_rank Y h_t B_t t_thrown t_n t_modulus t_rows t_strands t_letters t_listedMany t_listN t_listWhat t_equations) s.heap) (hD : va_D A (w_X11_rank Y h_t B_t t_thrown t_n t_modulus t_rows t_strands t_letters t_listedMany t_listN t_listWhat t_equations)) (h : pX11_rank t_equations x1 x2 K) : W p l e R s m args below meth c s.heap [] 0 0 Q (entryFrame m ([.ref h_t, .int x1, .int x2] : List Value).toArray 10) := by
  have inX11 : ∀ w ∈ u_ws RX11 TX11 29, w ∈ wsX11_rank := by decide +kernel
  have hf65 := hts (.fieldLink RX11 65 "RackBenchModel" "equations" "[I") (by decide +kernel)
  have hl := lv_entry ([.ref h_t, .int x1, .int x2]) (n := 10) (Nat.le_of_ble_eq_true rfl)
  rw [lg_entry_eq]
  generalize (lg_sl ([.ref h_t, .int x1, .int x2]) ++ List.replicate (10 - (lg_sl ([.ref h_t, .int x1, .int x2])).length) Slot.unset).toArray = ls at hl ⊢
  have hl : lv_has ls 10 [(0, .ref h_t), (1, .int x1), (2, .int x2)] := hl
  generalize hH0 : s.heap = H at hP ⊢
  have hS : va_S A s.heap H [] := by rw [← hH0]; exact va_S.rf
  clear hH0
  generalize ([] : List Loc) = locs at hS ⊢
  refine lv_iconst (v := 0) hx hb dX11_rank_0 (by decide) ?_
  refine lv_istore_n (lv' := [(3, .int (0 : Int32)), (0, .ref h_t), (1, .int x1), (2, .int x2)]) hx hb dX11_rank_1 rfl hl (by decide) rfl (fun ls hl => ?_)
  refine lv_iconst (v := 0) hx hb dX11_rank_2 (by decide) ?_
  refine lv_istore (lv' := [(4, .int (0 : Int32)), (3, .int (0 : Int32)), (0, .ref h_t), (1, .int x1), (2, .int x2)]) hx hb dX11_rank_3 hl (by decide) rfl (fun ls hl => ?_)
  obtain ⟨I5, m5, hI5, hB5⟩ := h
  have L5 : ∀ (x1 : Int32) (x2 : Int32) (I5 : Int32 → Int32 → (Nat → Int32) → Prop) (m5 : Int32 → Int32 → (Nat → Int32) → Nat), (∀ (x3 : Int32) (x4 : Int32) (t_equations : Nat → Int32), I5 x3 x4 t_equations → pX11_rank_5 K x1 x2 x3 x4 t_equations (fun x3' x4' t_equations' => I5 x3' x4' t_equations' ∧ m5 x3' x4' t_equations' < m5 x3 x4 t_equations)) → ∀ (n : Nat) (x3 : Int32) (x4 : Int32) (t_equations : Nat → Int32) (H : Heap) (locs : List Loc) (ls : Array Slot), I5 x3 x4 t_equations → m5 x3 x4 t_equations < n → va_P G vwCl (w_X11_rank Y h_t B_t t_thrown t_n t_modulus t_rows t_strands t_letters t_listedMany t_listN t_listWhat t_equations) H → va_D A (w_X11_rank Y h_t B_t t_thrown t_n t_modulus t_rows t_strands t_letters t_listedMany t_listN t_listWhat t_equations) → va_S A s.heap H locs → lv_has ls 10 [(0, .ref h_t), (1, .int x1), (2, .int x2), (3, .int x3), (4, .int x4)] → W p l e R s m args below meth c H locs 0 0 Q (F0 m 5 ls []) := by
    intro x1 x2 I5 m5 hB5 n
    induction n with
    | zero => intro x3 x4 t_equations H locs ls _ hm; exact absurd hm (Nat.not_lt_zero _)
    | succ n ih =>
      intro x3 x4 t_equations H locs ls hI hm hP hD hS hl
      obtain ⟨R5, h, rec5⟩ : ∃ R5 : Int32 → Int32 → (Nat → Int32) → Prop, pX11_rank_5 K x1 x2 x3 x4 t_equations R5 ∧ ∀ (x3 : Int32) (x4 : Int32) (t_equations : Nat → Int32) (H : Heap) (locs : List Loc) (ls : Array Slot), R5 x3 x4 t_equations → va_P G vwCl (w_X11_rank Y h_t B_t t_thrown t_n t_modulus t_rows t_strands t_letters t_listedMany t_listN t_listWhat t_equations) H → va_D A (w_X11_rank Y h_t B_t t_thrown t_n t_modulus t_rows t_strands t_letters t_listedMany t_listN t_listWhat t_equations) → va_S A s.heap H locs → lv_has ls 10 [(0, .ref h_t), (1, .int x1), (2, .int x2), (3, .int x3), (4, .int x4)] → W p l e R s m args below meth c H locs 0 0 Q (F0 m 5 ls []) := ⟨_, hB5 x3 x4 t_equations hI, fun x3 x4 t_equations H locs ls hh hP hD hS hl => ih x3 x4 t_equations H locs ls hh.1 (Nat.lt_of_lt_of_le hh.2 (Nat.le_of_lt_succ hm)) hP hD hS hl⟩
      have J43 : ∀ (x3 : Int32) (x4 : Int32) (x5 : Int32) (t_equations : Nat → Int32) (H : Heap) (locs : List Loc) (ls : Array Slot), pX11_rank_43 R5 K x1 x2 x3 x4 x5 t_equations → va_P G vwCl (w_X11_rank Y h_t B_t t_thrown t_n t_modulus t_rows t_strands t_letters t_listedMany t_listN t_listWhat t_equations) H → va_D A (w_X11_rank Y h_t B_t t_thrown t_n t_modulus t_rows t_strands t_letters t_listedMany t_listN t_listWhat t_equations) → va_S A s.heap H locs → lv_has ls 10 [(0, .ref h_t), (1, .int x1), (2, .int x2), (3, .int x3), (4, .int x4), (5, .int x5)] → W p l e R s m args below meth c H locs 0 0 Q (F0 m 43 ls []) := by
        intro x3 x4 x5 t_equations H locs ls h hP hD hS hl
        refine lv_iload hx hb dX11_rank_43 (lv_at hl 5 rfl) ?_
        refine lv_iload_n hx hb dX11_rank_45 rfl (lv_at hl 1 rfl) ?_
        obtain ⟨ht, hf⟩ := h
        refine lv_icmp_ne (tgt := 52) hx hb dX11_rank_46 (by decide) (fun c9 => ?_) (fun c9 => ?_)
        · have h := ht c9
          refine lv_iconst (v := 1) hx hb dX11_rank_52 (by decide) ?_
          refine lv_istore (lv' := [(6, .int (1 : Int32)), (0, .ref h_t), (1, .int x1), (2, .int x2), (3, .int x3), (4, .int x4), (5, .int x5)]) hx hb dX11_rank_53 hl (by decide) rfl (fun ls hl => ?_)
          obtain ⟨I55, m55, hI55, hB55⟩ := h
          have L55 : ∀ (x3 : Int32) (x4 : Int32) (x5 : Int32) (t_equations : Nat → Int32) (I55 : Int32 → Prop) (m55 : Int32 → Nat), (∀ (x6 : Int32), I55 x6 → pX11_rank_55 R5 K x1 x2 x3 x4 x5 t_equations x6 (fun x6' => I55 x6' ∧ m55 x6' < m55 x6)) → ∀ (n : Nat) (x6 : Int32) (H : Heap) (locs : List Loc) (ls : Array Slot), I55 x6 → m55 x6 < n → va_P G vwCl (w_X11_rank Y h_t B_t t_thrown t_n t_modulus t_rows t_strands t_letters t_listedMany t_listN t_listWhat t_equations) H → va_D A (w_X11_rank Y h_t B_t t_thrown t_n t_modulus t_rows t_strands t_letters t_listedMany t_listN t_listWhat t_equations) → va_S A s.heap H locs → lv_has ls 10 [(0, .ref h_t), (1, .int x1), (2, .int x2), (3, .int x3), (4, .int x4), (5, .int x5), (6, .int x6)] → W p l e R s m args below meth c H locs 0 0 Q (F0 m 55 ls []) := by
            intro x3 x4 x5 t_equations I55 m55 hB55 n
            induction n with
            | zero => intro x6 H locs ls _ hm; exact absurd hm (Nat.not_lt_zero _)
            | succ n ih =>
              intro x6 H locs ls hI hm hP hD hS hl
              obtain ⟨R55, h, rec55⟩ : ∃ R55 : Int32 → Prop, pX11_rank_55 R5 K x1 x2 x3 x4 x5 t_equations x6 R55 ∧ ∀ (x6 : Int32) (H : Heap) (locs : List Loc) (ls : Array Slot), R55 x6 → va_P G vwCl (w_X11_rank Y h_t B_t t_thrown t_n t_modulus t_rows t_strands t_letters t_listedMany t_listN t_listWhat t_equations) H → va_D A (w_X11_rank Y h_t B_t t_thrown t_n t_modulus t_rows t_strands t_letters t_listedMany t_listN t_listWhat t_equations) → va_S A s.heap H locs → lv_has ls 10 [(0, .ref h_t), (1, .int x1), (2, .int x2), (3, .int x3), (4, .int x4), (5, .int x5), (6, .int x6)] → W p l e R s m args below meth c H locs 0 0 Q (F0 m 55 ls []) := ⟨_, hB55 x6 hI, fun x6 H locs ls hh hP hD hS hl => ih x6 H locs ls hh.1 (Nat.lt_of_lt_of_le hh.2 (Nat.le_of_lt_succ hm)) hP hD hS hl⟩
              refine lv_iload hx hb dX11_rank_55 (lv_at hl 6 rfl) ?_
              refine lv_aload_n hx hb dX11_rank_57 rfl (lv_at hl 0 rfl) ?_
              refine va_get (D := G) (ci := 10) (v := .ref (B_t 19)) (C := RX11) (T := TX11) (N := 29) hx hb hts inX11 hown hK hP 0 rfl rfl 19 (by decide) hf65 (fun _ h9 => h9) rfl dX11_rank_58 ?_
              refine lv_bipush (v := 64) hx hb dX11_rank_61 (by decide) ?_
              refine lv_iload hx hb dX11_rank_63 (lv_at hl 5 rfl) ?_
              refine lv_imul hx hb dX11_rank_65 ?_
              refine lv_iload hx hb dX11_rank_66 (lv_at hl 4 rfl) ?_
              refine lv_iadd hx hb dX11_rank_68 ?_
              obtain ⟨hin, h⟩ := h
              refine va_iald hx hb hK hP 1 0 rfl rfl hin dX11_rank_69 ?_
              refine lv_imul hx hb dX11_rank_70 ?_
              refine lv_iload_n hx hb dX11_rank_71 rfl (lv_at hl 2 rfl) ?_
              obtain ⟨hne, h⟩ := h
              refine lv_irem hx hb dX11_rank_72 hne ?_
              refine lv_iconst (v := 1) hx hb dX11_rank_73 (by decide) ?_
              obtain ⟨ht, hf⟩ := h
              refine lv_icmp_eq (tgt := 83) hx hb dX11_rank_74 (by decide) (fun c9 => ?_) (fun c9 => ?_)
              · have h := ht c9
                refine lv_iconst (v := 0) hx hb dX11_rank_83 (by decide) ?_
                refine lv_istore (lv' := [(7, .int (0 : Int32)), (0, .ref h_t), (1, .int x1), (2, .int x2), (3, .int x3), (4, .int x4), (5, .int x5), (6, .int x6)]) hx hb dX11_rank_84 hl (by decide) rfl (fun ls hl => ?_)
                obtain ⟨I86, m86, hI86, hB86⟩ := h
                have L86 : ∀ (x3 : Int32) (x4 : Int32) (x5 : Int32) (x6 : Int32) (I86 : Int32 → (Nat → Int32) → Prop) (m86 : Int32 → (Nat → Int32) → Nat), (∀ (x7 : Int32) (t_equations : Nat → Int32), I86 x7 t_equations → pX11_rank_86 R5 R55 K x1 x2 x3 x4 x5 x6 x7 t_equations (fun x7' t_equations' => I86 x7' t_equations' ∧ m86 x7' t_equations' < m86 x7 t_equations)) → ∀ (n : Nat) (x7 : Int32) (t_equations : Nat → Int32) (H : Heap) (locs : List Loc) (ls : Array Slot), I86 x7 t_equations → m86 x7 t_equations < n → va_P G vwCl (w_X11_rank Y h_t B_t t_thrown t_n t_modulus t_rows t_strands t_letters t_listedMany t_listN t_listWhat t_equations) H → va_D A (w_X11_rank Y h_t B_t t_thrown t_n t_modulus t_rows t_strands t_letters t_listedMany t_listN t_listWhat t_equations) → va_S A s.heap H locs → lv_has ls 10 [(0, .ref h_t), (1, .int x1), (2, .int x2), (3, .int x3), (4, .int x4), (5, .int x5), (6, .int x6), (7, .int x7)] → W p l e R s m args below meth c H locs 0 0 Q (F0 m 86 ls []) := by
                  intro x3 x4 x5 x6 I86 m86 hB86 n
                  induction n with
                  | zero => intro x7 t_equations H locs ls _ hm; exact absurd hm (Nat.not_lt_zero _)
                  | succ n ih =>
                    intro x7 t_equations H locs ls hI hm hP hD hS hl
                    obtain ⟨R86, h, rec86⟩ : ∃ R86 : Int32 → (Nat → Int32) → Prop, pX11_rank_86 R5 R55 K x1 x2 x3 x4 x5 x6 x7 t_equations R86 ∧ ∀ (x7 : Int32) (t_equations : Nat → Int32) (H : Heap) (locs : List Loc) (ls : Array Slot), R86 x7 t_equations → va_P G vwCl (w_X11_rank Y h_t B_t t_thrown t_n t_modulus t_rows t_strands t_letters t_listedMany t_listN t_listWhat t_equations) H → va_D A (w_X11_rank Y h_t B_t t_thrown t_n t_modulus t_rows t_strands t_letters t_listedMany t_listN t_listWhat t_equations) → va_S A s.heap H locs → lv_has ls 10 [(0, .ref h_t), (1, .int x1), (2, .int x2), (3, .int x3), (4, .int x4), (5, .int x5), (6, .int x6), (7, .int x7)] → W p l e R s m args below meth c H locs 0 0 Q (F0 m 86 ls []) := ⟨_, hB86 x7 t_equations hI, fun x7 t_equations H locs ls hh hP hD hS hl => ih x7 t_equations H locs ls hh.1 (Nat.lt_of_lt_of_le hh.2 (Nat.le_of_lt_succ hm)) hP hD hS hl⟩
                    refine lv_iload hx hb dX11_rank_86 (lv_at hl 7 rfl) ?_
                    refine lv_bipush (v := 64) hx hb dX11_rank_88 (by decide) ?_
                    obtain ⟨ht, hf⟩ := h
                    refine lv_icmp_ge (tgt := 158) hx hb dX11_rank_90 (by decide) (fun c9 => ?_) (fun c9 => ?_)
                    · have h := ht c9
                      refine lv_iload_n hx hb dX11_rank_158 rfl (lv_at hl 3 rfl) ?_
                      refine lv_iconst (v := 1) hx hb dX11_rank_159 (by decide) ?_
                      refine lv_iadd hx hb dX11_rank_160 ?_
                      refine lv_istore (lv' := [(7, .int (x3 + (1 : Int32))), (0, .ref h_t), (1, .int x1), (2, .int x2), (3, .int x3), (4, .int x4), (5, .int x5), (6, .int x6)]) hx hb dX11_rank_161 hl (by decide) rfl (fun ls hl => ?_)
                      obtain ⟨I163, m163, hI163, hB163⟩ := h
                      have L163 : ∀ (x3 : Int32) (x4 : Int32) (I163 : Int32 → (Nat → Int32) → Prop) (m163 : Int32 → (Nat → Int32) → Nat), (∀ (x7 : Int32) (t_equations : Nat → Int32), I163 x7 t_equations → pX11_rank_163 R5 R86 K x1 x2 x3 x4 x7 t_equations (fun x7' t_equations' => I163 x7' t_equations' ∧ m163 x7' t_equations' < m163 x7 t_equations)) → ∀ (n : Nat) (x7 : Int32) (t_equations : Nat → Int32) (H : Heap) (locs : List Loc) (ls : Array Slot), I163 x7 t_equations → m163 x7 t_equations < n → va_P G vwCl (w_X11_rank Y h_t B_t t_thrown t_n t_modulus t_rows t_strands t_letters t_listedMany t_listN t_listWhat t_equations) H → va_D A (w_X11_rank Y h_t B_t t_thrown t_n t_modulus t_rows t_strands t_letters t_listedMany t_listN t_listWhat t_equations) → va_S A s.heap H locs → lv_has ls 10 [(0, .ref h_t), (1, .int x1), (2, .int x2), (3, .int x3), (4, .int x4), (7, .int x7)] → W p l e R s m args below meth c H locs 0 0 Q (F0 m 163 ls []) := by
                        intro x3 x4 I163 m163 hB163 n
                        induction n with
                        | zero => intro x7 t_equations H locs ls _ hm; exact absurd hm (Nat.not_lt_zero _)
                        | succ n ih =>
                          intro x7 t_equations H locs ls hI hm hP hD hS hl
                          obtain ⟨R163, h, rec163⟩ : ∃ R163 : Int32 → (Nat → Int32) → Prop, pX11_rank_163 R5 R86 K x1 x2 x3 x4 x7 t_equations R163 ∧ ∀ (x7 : Int32) (t_equations : Nat → Int32) (H : Heap) (locs : List Loc) (ls : Array Slot), R163 x7 t_equations → va_P G vwCl (w_X11_rank Y h_t B_t t_thrown t_n t_modulus t_rows t_strands t_letters t_listedMany t_listN t_listWhat t_equations) H → va_D A (w_X11_rank Y h_t B_t t_thrown t_n t_modulus t_rows t_strands t_letters t_listedMany t_listN t_listWhat t_equations) → va_S A s.heap H locs → lv_has ls 10 [(0, .ref h_t), (1, .int x1), (2, .int x2), (3, .int x3), (4, .int x4), (7, .int x7)] → W p l e R s m args below meth c H locs 0 0 Q (F0 m 163 ls []) := ⟨_, hB163 x7 t_equations hI, fun x7 t_equations H locs ls hh hP hD hS hl => ih x7 t_equations H locs ls hh.1 (Nat.lt_of_lt_of_le hh.2 (Nat.le_of_lt_succ hm)) hP hD hS hl⟩
                          refine lv_iload hx hb dX11_rank_163 (lv_at hl 5 rfl) ?_
                          refine lv_iload_n hx hb dX11_rank_165 rfl (lv_at hl 1 rfl) ?_
                          obtain ⟨ht, hf⟩ := h
                          refine lv_icmp_ge (tgt := 257) hx hb dX11_rank_166 (by decide) (fun c9 => ?_) (fun c9 => ?_)
                          · have h := ht c9
                            refine lv_iinc (v := (x3 + 1)) (lv' := [(3, .int (x3 + 1)), (0, .ref h_t), (1, .int x1), (2, .int x2), (4, .int x4), (7, .int x7)]) hx hb dX11_rank_257 hl (k := 3) rfl rfl (by decide) rfl (fun ls hl => ?_)
                            refine lv_iinc (v := (x4 + 1)) (lv' := [(4, .int (x4 + 1)), (3, .int (x3 + 1)), (0, .ref h_t), (1, .int x1), (2, .int x2), (7, .int x7)]) hx hb dX11_rank_260 hl (k := 4) rfl rfl (by decide) rfl (fun ls hl => ?_)
                            refine lv_goto (tgt := 5) hx hb dX11_rank_263 (by decide) ?_
                            exact rec5 (x3 + 1) (x4 + 1) t_equations H locs ls h hP hD hS (lv_sub hl [2, 3, 4, 1, 0] rfl)
                          · have h := hf c9
                            refine lv_aload_n hx hb dX11_rank_169 rfl (lv_at hl 0 rfl) ?_
                            refine va_get (D := G) (ci := 10) (v := .ref (B_t 19)) (C := RX11) (T := TX11) (N := 29) hx hb hts inX11 hown hK hP 0 rfl rfl 19 (by decide) hf65 (fun _ h9 => h9) rfl dX11_rank_170 ?_
                            refine lv_bipush (v := 64) hx hb dX11_rank_173 (by decide) ?_
                            refine lv_iload hx hb dX11_rank_175 (lv_at hl 5 rfl) ?_
                            refine lv_imul hx hb dX11_rank_177 ?_
                            refine lv_iload hx hb dX11_rank_178 (lv_at hl 4 rfl) ?_
                            refine lv_iadd hx hb dX11_rank_180 ?_
                            obtain ⟨hin, h⟩ := h
                            refine va_iald hx hb hK hP 1 0 rfl rfl hin dX11_rank_181 ?_
                            refine lv_istore (lv' := [(8, .int (t_equations (Int32.toNatClampNeg (((64 : Int32) * x7) + x4)))), (0, .ref h_t), (1, .int x1), (2, .int x2), (3, .int x3), (4, .int x4), (7, .int x7)]) hx hb dX11_rank_182 hl (by decide) rfl (fun ls hl => ?_)
                            refine lv_iconst (v := 0) hx hb dX11_rank_184 (by decide) ?_
                            refine lv_istore (lv' := [(9, .int (0 : Int32)), (8, .int (t_equations (Int32.toNatClampNeg (((64 : Int32) * x7) + x4)))), (0, .ref h_t), (1, .int x1), (2, .int x2), (3, .int x3), (4, .int x4), (7, .int x7)]) hx hb dX11_rank_185 hl (by decide) rfl (fun ls hl => ?_)
                            obtain ⟨I187, m187, hI187, hB187⟩ := h
                            have L187 : ∀ (x7 : Int32) (x8 : Int32) (I187 : Int32 → (Nat → Int32) → Prop) (m187 : Int32 → (Nat → Int32) → Nat), (∀ (x9 : Int32) (t_equations : Nat → Int32), I187 x9 t_equations → pX11_rank_187 R5 R163 K x1 x2 x3 x4 x7 x8 x9 t_equations (fun x9' t_equations' => I187 x9' t_equations' ∧ m187 x9' t_equations' < m187 x9 t_equations)) → ∀ (n : Nat) (x9 : Int32) (t_equations : Nat → Int32) (H : Heap) (locs : List Loc) (ls : Array Slot), I187 x9 t_equations → m187 x9 t_equations < n → va_P G vwCl (w_X11_rank Y h_t B_t t_thrown t_n t_modulus t_rows t_strands t_letters t_listedMany t_listN t_listWhat t_equations) H → va_D A (w_X11_rank Y h_t B_t t_thrown t_n t_modulus t_rows t_strands t_letters t_listedMany t_listN t_listWhat t_equations) → va_S A s.heap H locs → lv_has ls 10 [(0, .ref h_t), (1, .int x1), (2, .int x2), (3, .int x3), (4, .int x4), (7, .int x7), (8, .int x8), (9, .int x9)] → W p l e R s m args below meth c H locs 0 0 Q (F0 m 187 ls []) := by
                              intro x7 x8 I187 m187 hB187 n
                              induction n with
                              | zero => intro x9 t_equations H locs ls _ hm; exact absurd hm (Nat.not_lt_zero _)
                              | succ n ih =>
                                intro x9 t_equations H locs ls hI hm hP hD hS hl
                                obtain ⟨R187, h, rec187⟩ : ∃ R187 : Int32 → (Nat → Int32) → Prop, pX11_rank_187 R5 R163 K x1 x2 x3 x4 x7 x8 x9 t_equations R187 ∧ ∀ (x9 : Int32) (t_equations : Nat → Int32) (H : Heap) (locs : List Loc) (ls : Array Slot), R187 x9 t_equations → va_P G vwCl (w_X11_rank Y h_t B_t t_thrown t_n t_modulus t_rows t_strands t_letters t_listedMany t_listN t_listWhat t_equations) H → va_D A (w_X11_rank Y h_t B_t t_thrown t_n t_modulus t_rows t_strands t_letters t_listedMany t_listN t_listWhat t_equations) → va_S A s.heap H locs → lv_has ls 10 [(0, .ref h_t), (1, .int x1), (2, .int x2), (3, .int x3), (4, .int x4), (7, .int x7), (8, .int x8), (9, .int x9)] → W p l e R s m args below meth c H locs 0 0 Q (F0 m 187 ls []) := ⟨_, hB187 x9 t_equations hI, fun x9 t_equations H locs ls hh hP hD hS hl => ih x9 t_equations H locs ls hh.1 (Nat.lt_of_lt_of_le hh.2 (Nat.le_of_lt_succ hm)) hP hD hS hl⟩
                                refine lv_iload hx hb dX11_rank_187 (lv_at hl 7 rfl) ?_
                                refine lv_bipush (v := 64) hx hb dX11_rank_189 (by decide) ?_
                                obtain ⟨ht, hf⟩ := h
                                refine lv_icmp_ge (tgt := 251) hx hb dX11_rank_191 (by decide) (fun c9 => ?_) (fun c9 => ?_)
                                · have h := ht c9
                                  refine lv_iinc (v := (x7 + 1)) (lv' := [(7, .int (x7 + 1)), (0, .ref h_t), (1, .int x1), (2, .int x2), (3, .int x3), (4, .int x4), (8, .int x8), (9, .int x9)]) hx hb dX11_rank_251 hl (k := 5) rfl rfl (by decide) rfl (fun ls hl => ?_)
                                  refine lv_goto (tgt := 163) hx hb dX11_rank_254 (by decide) ?_
                                  exact rec163 (x7 + 1) t_equations H locs ls h hP hD hS (lv_sub hl [1, 2, 3, 4, 5, 0] rfl)
                                · have h := hf c9
                                  refine lv_iload hx hb dX11_rank_194 (lv_at hl 6 rfl) ?_
                                  obtain ⟨ht, hf⟩ := h
                                  refine lv_if_eq (tgt := 251) hx hb dX11_rank_196 (by decide) (fun c9 => ?_) (fun c9 => ?_)
                                  · have h := ht c9
                                    refine lv_iinc (v := (x7 + 1)) (lv' := [(7, .int (x7 + 1)), (0, .ref h_t), (1, .int x1), (2, .int x2), (3, .int x3), (4, .int x4), (8, .int x8), (9, .int x9)]) hx hb dX11_rank_251 hl (k := 5) rfl rfl (by decide) rfl (fun ls hl => ?_)
                                    refine lv_goto (tgt := 163) hx hb dX11_rank_254 (by decide) ?_
                                    exact rec163 (x7 + 1) t_equations H locs ls h hP hD hS (lv_sub hl [1, 2, 3, 4, 5, 0] rfl)
                                  · have h := hf c9
                                    refine lv_aload_n hx hb dX11_rank_199 rfl (lv_at hl 0 rfl) ?_
                                    refine va_get (D := G) (ci := 10) (v := .ref (B_t 19)) (C := RX11) (T := TX11) (N := 29) hx hb hts inX11 hown hK hP 0 rfl rfl 19 (by decide) hf65 (fun _ h9 => h9) rfl dX11_rank_200 ?_
                                    refine lv_bipush (v := 64) hx hb dX11_rank_203 (by decide) ?_
                                    refine lv_iload hx hb dX11_rank_205 (lv_at hl 5 rfl) ?_
                                    refine lv_imul hx hb dX11_rank_207 ?_
                                    refine lv_iload hx hb dX11_rank_208 (lv_at hl 7 rfl) ?_
                                    refine lv_iadd hx hb dX11_rank_210 ?_
                                    refine lv_aload_n hx hb dX11_rank_211 rfl (lv_at hl 0 rfl) ?_
                                    refine va_get (D := G) (ci := 10) (v := .ref (B_t 19)) (C := RX11) (T := TX11) (N := 29) hx hb hts inX11 hown hK hP 0 rfl rfl 19 (by decide) hf65 (fun _ h9 => h9) rfl dX11_rank_212 ?_
                                    refine lv_bipush (v := 64) hx hb dX11_rank_215 (by decide) ?_
                                    refine lv_iload hx hb dX11_rank_217 (lv_at hl 5 rfl) ?_
                                    refine lv_imul hx hb dX11_rank_219 ?_
                                    refine lv_iload hx hb dX11_rank_220 (lv_at hl 7 rfl) ?_
                                    refine lv_iadd hx hb dX11_rank_222 ?_
                                    obtain ⟨hin, h⟩ := h
                                    refine va_iald hx hb hK hP 1 0 rfl rfl hin dX11_rank_223 ?_
                                    refine lv_iload hx hb dX11_rank_224 (lv_at hl 6 rfl) ?_
                                    refine lv_aload_n hx hb dX11_rank_226 rfl (lv_at hl 0 rfl) ?_
                                    refine va_get (D := G) (ci := 10) (v := .ref (B_t 19)) (C := RX11) (T := TX11) (N := 29) hx hb hts inX11 hown hK hP 0 rfl rfl 19 (by decide) hf65 (fun _ h9 => h9) rfl dX11_rank_227 ?_
                                    refine lv_bipush (v := 64) hx hb dX11_rank_230 (by decide) ?_
                                    refine lv_iload_n hx hb dX11_rank_232 rfl (lv_at hl 3 rfl) ?_
                                    refine lv_imul hx hb dX11_rank_233 ?_
                                    refine lv_iload hx hb dX11_rank_234 (lv_at hl 7 rfl) ?_
                                    refine lv_iadd hx hb dX11_rank_236 ?_
                                    obtain ⟨hin, h⟩ := h
                                    refine va_iald hx hb hK hP 1 0 rfl rfl hin dX11_rank_237 ?_
                                    refine lv_imul hx hb dX11_rank_238 ?_
                                    refine lv_isub hx hb dX11_rank_239 ?_
                                    refine lv_iload_n hx hb dX11_rank_240 rfl (lv_at hl 2 rfl) ?_
                                    refine mc_iS ⟨hx, hb, hml, hown, hts⟩ hK hE hA hP hD hS (c_J9_floorMod_7cf53 l G Y tF H.size ((t_equations (Int32.toNatClampNeg (((64 : Int32) * x7) + x9))) - (x8 * (t_equations (Int32.toNatClampNeg (((64 : Int32) * x3) + x9))))) x2 h) (va_cwS 2 hts gX11_rank_J9_floorMod_7cf53 rfl rfl rfl (by decide +kernel) ⟨Nat.le_trans (by decide) hRf, Nat.le_trans (by decide) hRl⟩) (fun u => (w_X11_rank Y h_t B_t t_thrown t_n t_modulus t_rows t_strands t_letters t_listedMany t_listN t_listWhat t_equations)) [] [0, 1] [0, 1] rfl rfl rfl rfl (by decide) (fun _ => rfl) rfl rfl hl.1 rfl (Nat.le_of_ble_eq_true rfl) dX11_rank_241 (fun r241 u H locs h hP hD hS => ?_)
                                    try dsimp only at h
                                    have hP : va_P G vwCl (w_X11_rank Y h_t B_t t_thrown t_n t_modulus t_rows t_strands t_letters t_listedMany t_listN t_listWhat t_equations) H := hP
                                    have hD : va_D A (w_X11_rank Y h_t B_t t_thrown t_n t_modulus t_rows t_strands t_letters t_listedMany t_listN t_listWhat t_equations) := hD
                                    obtain ⟨hin, h⟩ := h
                                    refine va_iast hx hb hK hP hD hS 1 0 rfl rfl hin dX11_rank_244 (fun H locs hP hD hS => ?_)
                                    have hP : va_P G vwCl (w_X11_rank Y h_t B_t t_thrown t_n t_modulus t_rows t_strands t_letters t_listedMany t_listN t_listWhat (upd t_equations (Int32.toNatClampNeg (((64 : Int32) * x7) + x9)) r241)) H := hP
                                    have hD : va_D A (w_X11_rank Y h_t B_t t_thrown t_n t_modulus t_rows t_strands t_letters t_listedMany t_listN t_listWhat (upd t_equations (Int32.toNatClampNeg (((64 : Int32) * x7) + x9)) r241)) := hD
                                    refine lv_iinc (v := (x9 + 1)) (lv' := [(9, .int (x9 + 1)), (0, .ref h_t), (1, .int x1), (2, .int x2), (3, .int x3), (4, .int x4), (7, .int x7), (8, .int x8)]) hx hb dX11_rank_245 hl (k := 7) rfl rfl (by decide) rfl (fun ls hl => ?_)
                                    refine lv_goto (tgt := 187) hx hb dX11_rank_248 (by decide) ?_
                                    exact rec187 (x9 + 1) (upd t_equations (Int32.toNatClampNeg (((64 : Int32) * x7) + x9)) r241) H locs ls h hP hD hS (lv_sub hl [1, 2, 3, 4, 5, 6, 7, 0] rfl)
                            exact L187 x7 (t_equations (Int32.toNatClampNeg (((64 : Int32) * x7) + x4))) I187 m187 hB187 _ (0 : Int32) t_equations H locs ls hI187 (Nat.lt_succ_self _) hP hD hS (lv_sub hl [2, 3, 4, 5, 6, 7, 1, 0] rfl)
                      exact L163 x3 x4 I163 m163 hB163 _ (x3 + (1 : Int32)) t_equations H locs ls hI163 (Nat.lt_succ_self _) hP hD hS (lv_sub hl [1, 2, 3, 4, 5, 0] rfl)
                    · have h := hf c9
                      refine lv_aload_n hx hb dX11_rank_93 rfl (lv_at hl 0 rfl) ?_
                      refine va_get (D := G) (ci := 10) (v := .ref (B_t 19)) (C := RX11) (T := TX11) (N := 29) hx hb hts inX11 hown hK hP 0 rfl rfl 19 (by decide) hf65 (fun _ h9 => h9) rfl dX11_rank_94 ?_
                      refine lv_bipush (v := 64) hx hb dX11_rank_97 (by decide) ?_
                      refine lv_iload hx hb dX11_rank_99 (lv_at hl 5 rfl) ?_
                      refine lv_imul hx hb dX11_rank_101 ?_
                      refine lv_iload hx hb dX11_rank_102 (lv_at hl 7 rfl) ?_
                      refine lv_iadd hx hb dX11_rank_104 ?_
                      obtain ⟨hin, h⟩ := h
                      refine va_iald hx hb hK hP 1 0 rfl rfl hin dX11_rank_105 ?_
                      refine lv_iload hx hb dX11_rank_106 (lv_at hl 6 rfl) ?_
                      refine lv_imul hx hb dX11_rank_108 ?_
                      refine lv_iload_n hx hb dX11_rank_109 rfl (lv_at hl 2 rfl) ?_
                      obtain ⟨hne, h⟩ := h
                      refine lv_irem hx hb dX11_rank_110 hne ?_
                      refine lv_istore (lv' := [(8, .int (((t_equations (Int32.toNatClampNeg (((64 : Int32) * x5) + x7))) * x6) - ((t_equations (Int32.toNatClampNeg (((64 : Int32) * x5) + x7))) * x6) / x2 * x2)), (0, .ref h_t), (1, .int x1), (2, .int x2), (3, .int x3), (4, .int x4), (5, .int x5), (6, .int x6), (7, .int x7)]) hx hb dX11_rank_111 hl (by decide) rfl (fun ls hl => ?_)
                      refine lv_aload_n hx hb dX11_rank_113 rfl (lv_at hl 1 rfl) ?_
                      refine va_get (D := G) (ci := 10) (v := .ref (B_t 19)) (C := RX11) (T := TX11) (N := 29) hx hb hts inX11 hown hK hP 0 rfl rfl 19 (by decide) hf65 (fun _ h9 => h9) rfl dX11_rank_114 ?_
                      refine lv_bipush (v := 64) hx hb dX11_rank_117 (by decide) ?_
                      refine lv_iload hx hb dX11_rank_119 (lv_at hl 6 rfl) ?_
                      refine lv_imul hx hb dX11_rank_121 ?_
                      refine lv_iload hx hb dX11_rank_122 (lv_at hl 8 rfl) ?_
                      refine lv_iadd hx hb dX11_rank_124 ?_
                      refine lv_aload_n hx hb dX11_rank_125 rfl (lv_at hl 1 rfl) ?_
                      refine va_get (D := G) (ci := 10) (v := .ref (B_t 19)) (C := RX11) (T := TX11) (N := 29) hx hb hts inX11 hown hK hP 0 rfl rfl 19 (by decide) hf65 (fun _ h9 => h9) rfl dX11_rank_126 ?_
                      refine lv_bipush (v := 64) hx hb dX11_rank_129 (by decide) ?_
                      refine lv_iload_n hx hb dX11_rank_131 rfl (lv_at hl 4 rfl) ?_
                      refine lv_imul hx hb dX11_rank_132 ?_
                      refine lv_iload hx hb dX11_rank_133 (lv_at hl 8 rfl) ?_
                      refine lv_iadd hx hb dX11_rank_135 ?_
                      obtain ⟨hin, h⟩ := h
                      refine va_iald hx hb hK hP 1 0 rfl rfl hin dX11_rank_136 ?_
                      obtain ⟨hin, h⟩ := h
                      refine va_iast hx hb hK hP hD hS 1 0 rfl rfl hin dX11_rank_137 (fun H locs hP hD hS => ?_)
                      have hP : va_P G vwCl (w_X11_rank Y h_t B_t t_thrown t_n t_modulus t_rows t_strands t_letters t_listedMany t_listN t_listWhat (upd t_equations (Int32.toNatClampNeg (((64 : Int32) * x5) + x7)) (t_equations (Int32.toNatClampNeg (((64 : Int32) * x3) + x7))))) H := hP
                      have hD : va_D A (w_X11_rank Y h_t B_t t_thrown t_n t_modulus t_rows t_strands t_letters t_listedMany t_listN t_listWhat (upd t_equations (Int32.toNatClampNeg (((64 : Int32) * x5) + x7)) (t_equations (Int32.toNatClampNeg (((64 : Int32) * x3) + x7))))) := hD
                      refine lv_aload_n hx hb dX11_rank_138 rfl (lv_at hl 1 rfl) ?_
                      refine va_get (D := G) (ci := 10) (v := .ref (B_t 19)) (C := RX11) (T := TX11) (N := 29) hx hb hts inX11 hown hK hP 0 rfl rfl 19 (by decide) hf65 (fun _ h9 => h9) rfl dX11_rank_139 ?_
                      refine lv_bipush (v := 64) hx hb dX11_rank_142 (by decide) ?_
                      refine lv_iload_n hx hb dX11_rank_144 rfl (lv_at hl 4 rfl) ?_
                      refine lv_imul hx hb dX11_rank_145 ?_
                      refine lv_iload hx hb dX11_rank_146 (lv_at hl 8 rfl) ?_
                      refine lv_iadd hx hb dX11_rank_148 ?_
                      refine lv_iload hx hb dX11_rank_149 (lv_at hl 0 rfl) ?_
                      obtain ⟨hin, h⟩ := h
                      refine va_iast hx hb hK hP hD hS 1 0 rfl rfl hin dX11_rank_151 (fun H locs hP hD hS => ?_)
                      have hP : va_P G vwCl (w_X11_rank Y h_t B_t t_thrown t_n t_modulus t_rows t_strands t_letters t_listedMany t_listN t_listWhat (upd (upd t_equations (Int32.toNatClampNeg (((64 : Int32) * x5) + x7)) (t_equations (Int32.toNatClampNeg (((64 : Int32) * x3) + x7)))) (Int32.toNatClampNeg (((64 : Int32) * x3) + x7)) (((t_equations (Int32.toNatClampNeg (((64 : Int32) * x5) + x7))) * x6) - ((t_equations (Int32.toNatClampNeg (((64 : Int32) * x5) + x7))) * x6) / x2 * x2))) H := hP
                      have hD : va_D A (w_X11_rank Y h_t B_t t_thrown t_n t_modulus t_rows t_strands t_letters t_listedMany t_listN t_listWhat (upd (upd t_equations (Int32.toNatClampNeg (((64 : Int32) * x5) + x7)) (t_equations (Int32.toNatClampNeg (((64 : Int32) * x3) + x7)))) (Int32.toNatClampNeg (((64 : Int32) * x3) + x7)) (((t_equations (Int32.toNatClampNeg (((64 : Int32) * x5) + x7))) * x6) - ((t_equations (Int32.toNatClampNeg (((64 : Int32) * x5) + x7))) * x6) / x2 * x2))) := hD
                      refine lv_iinc (v := (x7 + 1)) (lv' := [(7, .int (x7 + 1)), (8, .int (((t_equations (Int32.toNatClampNeg (((64 : Int32) * x5) + x7))) * x6) - ((t_equations (Int32.toNatClampNeg (((64 : Int32) * x5) + x7))) * x6) / x2 * x2)), (0, .ref h_t), (1, .int x1), (2, .int x2), (3, .int x3), (4, .int x4), (5, .int x5), (6, .int x6)]) hx hb dX11_rank_152 hl (k := 8) rfl rfl (by decide) rfl (fun ls hl => ?_)
                      refine lv_goto (tgt := 86) hx hb dX11_rank_155 (by decide) ?_
                      exact rec86 (x7 + 1) (upd (upd t_equations (Int32.toNatClampNeg (((64 : Int32) * x5) + x7)) (t_equations (Int32.toNatClampNeg (((64 : Int32) * x3) + x7)))) (Int32.toNatClampNeg (((64 : Int32) * x3) + x7)) (((t_equations (Int32.toNatClampNeg (((64 : Int32) * x5) + x7))) * x6) - ((t_equations (Int32.toNatClampNeg (((64 : Int32) * x5) + x7))) * x6) / x2 * x2)) H locs ls h hP hD hS (lv_sub hl [2, 3, 4, 5, 6, 7, 8, 0] rfl)
                exact L86 x3 x4 x5 x6 I86 m86 hB86 _ (0 : Int32) t_equations H locs ls hI86 (Nat.lt_succ_self _) hP hD hS (lv_sub hl [1, 2, 3, 4, 5, 6, 7, 0] rfl)
              · have h := hf c9
                refine lv_iinc (v := (x6 + 1)) (lv' := [(6, .int (x6 + 1)), (0, .ref h_t), (1, .int x1), (2, .int x2), (3, .int x3), (4, .int x4), (5, .int x5)]) hx hb dX11_rank_77 hl (k := 6) rfl rfl (by decide) rfl (fun ls hl => ?_)
                refine lv_goto (tgt := 55) hx hb dX11_rank_80 (by decide) ?_
                exact rec55 (x6 + 1) H locs ls h hP hD hS (lv_sub hl [1, 2, 3, 4, 5, 6, 0] rfl)
          exact L55 x3 x4 x5 t_equations I55 m55 hB55 _ (1 : Int32) H locs ls hI55 (Nat.lt_succ_self _) hP hD hS (lv_sub hl [1, 2, 3, 4, 5, 6, 0] rfl)
        · have h := hf c9
          refine lv_goto (tgt := 260) hx hb dX11_rank_49 (by decide) ?_
          refine lv_iinc (v := (x4 + 1)) (lv' := [(4, .int (x4 + 1)), (0, .ref h_t), (1, .int x1), (2, .int x2), (3, .int x3), (5, .int x5)]) hx hb dX11_rank_260 hl (k := 4) rfl rfl (by decide) rfl (fun ls hl => ?_)
          refine lv_goto (tgt := 5) hx hb dX11_rank_263 (by decide) ?_
          exact rec5 x3 (x4 + 1) t_equations H locs ls h hP hD hS (lv_sub hl [1, 2, 3, 4, 0] rfl)
      refine lv_iload hx hb dX11_rank_5 (lv_at hl 4 rfl) ?_
      refine lv_bipush (v := 64) hx hb dX11_rank_7 (by decide) ?_
      obtain ⟨ht, hf⟩ := h
      refine lv_icmp_ge (tgt := 266) hx hb dX11_rank_9 (by decide) (fun c9 => ?_) (fun c9 => ?_)
      · have h := ht c9
        refine lv_iload_n hx hb dX11_rank_266 rfl (lv_at hl 3 rfl) ?_
        exact hret x3 t_equations H locs ls _ hP hD hS h dX11_rank_267
      · have h := hf c9
        refine lv_iload_n hx hb dX11_rank_12 rfl (lv_at hl 3 rfl) ?_
        refine lv_istore (lv' := [(5, .int x3), (0, .ref h_t), (1, .int x1), (2, .int x2), (3, .int x3), (4, .int x4)]) hx hb dX11_rank_13 hl (by decide) rfl (fun ls hl => ?_)
        obtain ⟨I15, m15, hI15, hB15⟩ := h
        have L15 : ∀ (x3 : Int32) (x4 : Int32) (t_equations : Nat → Int32) (I15 : Int32 → Prop) (m15 : Int32 → Nat), (∀ (x5 : Int32), I15 x5 → pX11_rank_15 R5 K x1 x2 x3 x4 t_equations x5 (fun x5' => I15 x5' ∧ m15 x5' < m15 x5)) → ∀ (n : Nat) (x5 : Int32) (H : Heap) (locs : List Loc) (ls : Array Slot), I15 x5 → m15 x5 < n → va_P G vwCl (w_X11_rank Y h_t B_t t_thrown t_n t_modulus t_rows t_strands t_letters t_listedMany t_listN t_listWhat t_equations) H → va_D A (w_X11_rank Y h_t B_t t_thrown t_n t_modulus t_rows t_strands t_letters t_listedMany t_listN t_listWhat t_equations) → va_S A s.heap H locs → lv_has ls 10 [(0, .ref h_t), (1, .int x1), (2, .int x2), (3, .int x3), (4, .int x4), (5, .int x5)] → W p l e R s m args below meth c H locs 0 0 Q (F0 m 15 ls []) := by
          intro x3 x4 t_equations I15 m15 hB15 n
          induction n with
          | zero => intro x5 H locs ls _ hm; exact absurd hm (Nat.not_lt_zero _)
          | succ n ih =>
            intro x5 H locs ls hI hm hP hD hS hl
            obtain ⟨R15, h, rec15⟩ : ∃ R15 : Int32 → Prop, pX11_rank_15 R5 K x1 x2 x3 x4 t_equations x5 R15 ∧ ∀ (x5 : Int32) (H : Heap) (locs : List Loc) (ls : Array Slot), R15 x5 → va_P G vwCl (w_X11_rank Y h_t B_t t_thrown t_n t_modulus t_rows t_strands t_letters t_listedMany t_listN t_listWhat t_equations) H → va_D A (w_X11_rank Y h_t B_t t_thrown t_n t_modulus t_rows t_strands t_letters t_listedMany t_listN t_listWhat t_equations) → va_S A s.heap H locs → lv_has ls 10 [(0, .ref h_t), (1, .int x1), (2, .int x2), (3, .int x3), (4, .int x4), (5, .int x5)] → W p l e R s m args below meth c H locs 0 0 Q (F0 m 15 ls []) := ⟨_, hB15 x5 hI, fun x5 H locs ls hh hP hD hS hl => ih x5 H locs ls hh.1 (Nat.lt_of_lt_of_le hh.2 (Nat.le_of_lt_succ hm)) hP hD hS hl⟩
            refine lv_iload hx hb dX11_rank_15 (lv_at hl 5 rfl) ?_
            refine lv_iload_n hx hb dX11_rank_17 rfl (lv_at hl 1 rfl) ?_
            obtain ⟨ht, hf⟩ := h
            refine lv_icmp_ge (tgt := 43) hx hb dX11_rank_18 (by decide) (fun c9 => ?_) (fun c9 => ?_)
            · have h := ht c9
              exact J43 x3 x4 x5 t_equations H locs ls h hP hD hS (lv_sub hl [0, 1, 2, 3, 4, 5] rfl)
            · have h := hf c9
              refine lv_aload_n hx hb dX11_rank_21 rfl (lv_at hl 0 rfl) ?_
              refine va_get (D := G) (ci := 10) (v := .ref (B_t 19)) (C := RX11) (T := TX11) (N := 29) hx hb hts inX11 hown hK hP 0 rfl rfl 19 (by decide) hf65 (fun _ h9 => h9) rfl dX11_rank_22 ?_
              refine lv_bipush (v := 64) hx hb dX11_rank_25 (by decide) ?_
              refine lv_iload hx hb dX11_rank_27 (lv_at hl 5 rfl) ?_
              refine lv_imul hx hb dX11_rank_29 ?_
              refine lv_iload hx hb dX11_rank_30 (lv_at hl 4 rfl) ?_
              refine lv_iadd hx hb dX11_rank_32 ?_
              obtain ⟨hin, h⟩ := h
              refine va_iald hx hb hK hP 1 0 rfl rfl hin dX11_rank_33 ?_
              obtain ⟨ht, hf⟩ := h
              refine lv_if_ne (tgt := 43) hx hb dX11_rank_34 (by decide) (fun c9 => ?_) (fun c9 => ?_)
              · have h := ht c9
                exact J43 x3 x4 x5 t_equations H locs ls h hP hD hS (lv_sub hl [0, 1, 2, 3, 4, 5] rfl)
              · have h := hf c9
                refine lv_iinc (v := (x5 + 1)) (lv' := [(5, .int (x5 + 1)), (0, .ref h_t), (1, .int x1), (2, .int x2), (3, .int x3), (4, .int x4)]) hx hb dX11_rank_37 hl (k := 5) rfl rfl (by decide) rfl (fun ls hl => ?_)
                refine lv_goto (tgt := 15) hx hb dX11_rank_40 (by decide) ?_
                exact rec15 (x5 + 1) H locs ls h hP hD hS (lv_sub hl [1, 2, 3, 4, 5, 0] rfl)
        exact L15 x3 x4 t_equations I15 m15 hB15 _ x3 H locs ls hI15 (Nat.lt_succ_self _) hP hD hS (lv_sub hl [1, 2, 3, 4, 5, 0] rfl)
  exact L5 x1 x2 I5 m5 hB5 _ (0 : Int32) (0 : Int32) t_equations H locs ls hI5 (Nat.lt_succ_self _) hP hD hS (lv_sub hl [2, 3, 4, 1, 0] rfl)

set_option maxHeartbeats 20000000 in
set_option maxRecDepth 100000 in
theorem c_X11_rank (l : Launch) (G : va_G) (Y : Nat → ClassId) (tF sz : Nat) (h_t : Nat) (B_t : Nat → Nat) (t_thrown : Int32) (t_n : Int32) (t_modulus : Int32) (t_rows : Int32) (t_strands : Int32) (t_letters : Int32) (t_listedMany : Int32) (t_listN : Int32) (t_listWhat : Int32) (t_equations : Nat → Int32) (x1 : Int32) (x2 : Int32) {K : Int32 → (Nat → Int32) → Prop} (h : pX11_rank t_equations x1 x2 K) : Met l yX11_rank wsX11_rank ({ frames := 1, cells := 0, slots := 0, locals := 22 }) (PcM G Y tF sz (w_X11_rank Y h_t B_t t_thrown t_n t_modulus t_rows t_strands t_letters t_listedMany t_listN t_listWhat t_equations) [.ref h_t, .int x1, .int x2]) (va_Qi (fun (r : Int32) (u : (Nat → Int32)) => K r u) (fun u t => BM G Y (va_A (w_X11_rank Y h_t B_t t_thrown t_n t_modulus t_rows t_strands t_letters t_listedMany t_listN t_listWhat t_equations) sz) (w_X11_rank Y h_t B_t t_thrown t_n t_modulus t_rows t_strands t_letters t_listedMany t_listN t_listWhat u) t) (va_A (w_X11_rank Y h_t B_t t_thrown t_n t_modulus t_rows t_strands t_letters t_listedMany t_listN t_listWhat t_equations) sz)) 0 0 (va_A (w_X11_rank Y h_t B_t t_thrown t_n t_modulus t_rows t_strands t_letters t_listedMany t_listN t_listWhat t_equations) sz) := by
  refine Met.ofW (cc := cX11_rank) (maxL := 10) (ret := (some .int)) (by decide +kernel) rfl ?_
  intro p e s m args below meth c s₁ B hml hv
  obtain ⟨rfl, hsz, hP, hK, hD0, hE⟩ := hv
  have hts := atoms_spec (ws := wsX11_rank) B.pre
  have hown : s.vm.findClass RX11 = some m.cls := findClass_of_methodNamed B.named
  have hlocks := B.notSynchronized
  subst hsz
  have hD := hD0.self (sz := s.heap.size)
  exact wk_X11_rank h_t B_t t_thrown t_n t_modulus t_rows t_strands t_letters t_listedMany t_listN t_listWhat t_equations x1 x2 B.exec B.bytes hml hown hts hK hE (fun q h => Or.inr h) (Nat.le_refl _) (Nat.le_refl _) (fun r t_equations H locs ls pc hP hD hS hk hd => W.iret (v := r) B.exec B.bytes B.returns (fun t ht hW => ⟨⟨r, t_equations, rfl, hk, by rw [ht]; exact hP, va_K.moved hW.alike hK, hD⟩, hS.F ht⟩) hS.2.2 hd) hP hD h

