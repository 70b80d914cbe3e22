abbrev w_X11_strands (Y : Nat → ClassId) (h_t : Nat) (B_t : Nat → Nat) (t_thrown : Int32) (t_n : Int32) (t_modulus : Int32) (t_rows : Int32) (t_strands : Int32) (t_letters : Int32) (t_listedMany : Int32) (t_listN : Int32) (t_listWhat : Int32) : va_W := [(h_t, .inr (10, [.int t_thrown, .int t_n, .ref (B_t 2), .int t_modulus, .ref (B_t 4), .ref (B_t 5), .ref (B_t 6), .ref (B_t 7), .ref (B_t 8), .ref (B_t 9), .ref (B_t 10), .int t_rows, .ref (B_t 12), .ref (B_t 13), .ref (B_t 14), .ref (B_t 15), .ref (B_t 16), .ref (B_t 17), .ref (B_t 18), .ref (B_t 19), .int t_strands, .int t_letters, .ref (B_t 22), .ref (B_t 23), .ref (B_t 24), .ref (B_t 25), .int t_listedMany, .int t_listN, .int t_listWhat]))]

set_option maxHeartbeats 20000000 in
set_option maxRecDepth 100000 in
theorem wk_X11_strands {p : Program} {l : Launch} {e : Env} {R : Room} {s : State} {m : MethodId} {args : Array Value} {below : List Frame} {meth : Method} {c : Code} {Q : State → Prop} {G : va_G} {Y : Nat → ClassId} {tF : Nat} {A : Nat → Prop} (h_t : Nat) (B_t : Nat → Nat) (t_thrown : Int32) (t_n : Int32) (t_modulus : Int32) (t_rows : Int32) (t_strands : Int32) (t_letters : Int32) (t_listedMany : Int32) (t_listN : Int32) (t_listWhat : Int32) (x1 : Int32) {K : Int32 → Int32 → Int32 → Int32 → Prop} (hx : p.tables.exec = Jvm.exec) (hb : c.code = cX11_strands) (hml : c.maxLocals = 2) (hown : s.vm.findClass RX11 = some m.cls) (hts : ∀ w ∈ wsX11_strands, w.before args s = true) (hK : va_K G vwCl (tyL Y) s) (hE : Ev A tF s) (hA : ∀ q, s.heap.size ≤ q → A q) (hRf : 1 ≤ R.frames) (hRl : 25 ≤ R.locals) (hret : ∀ (r : Int32) (t_thrown : Int32) (t_strands : Int32) (t_letters : Int32) (H : Heap) (locs : List Loc) (ls : Array Slot) (pc : Nat), va_P G vwCl (w_X11_strands Y h_t B_t t_thrown t_n t_modulus t_rows t_strands t_letters t_listedMany t_listN t_listWhat) H → va_D A (w_X11_strands Y h_t B_t t_thrown t_n t_modulus t_rows t_strands t_letters t_listedMany t_listN t_listWhat) → va_S A s.heap H locs → zb r → K r t_thrown t_strands t_letters → decode cX11_strands pc = .ok (.ireturn, 1) → W p l e R s m args below meth c H locs 0 0 Q (F0 m pc ls [.int r])) (hP : va_P G vwCl (w_X11_strands Y h_t B_t t_thrown t_n t_modulus t_rows t_strands t_letters t_listedMany t_listN t_listWhat) s.heap) (hD : va_D A (w_X11_strands Y h_t B_t t_thrown t_n t_modulus t_rows t_strands t_letters t_listedMany t_listN t_listWhat)) (h : pX11_strands t_thrown t_strands t_letters x1 K) : W p l e R s m args below meth c s.heap [] 0 0 Q (entryFrame m ([.ref h_t, .int x1] : List Value).toArray 2) := by
  have inX11 : ∀ w ∈ u_ws RX11 TX11 29, w ∈ wsX11_strands := by decide +kernel
  have hf141 := hts (.fieldLink RX11 141 "RackBenchModel" "letters" "I") (by decide +kernel)
  have hf68 := hts (.fieldLink RX11 68 "RackBenchModel" "strands" "I") (by decide +kernel)
  have hf83 := hts (.fieldLink RX11 83 "RackBenchModel" "thrown" "I") (by decide +kernel)
  have hcL163 := hts (.constantLong RX11 163 (4)) (by decide +kernel)
  have hcL198 := hts (.constantLong RX11 198 (2)) (by decide +kernel)
  have hl := lv_entry ([.ref h_t, .int x1]) (n := 2) (Nat.le_of_ble_eq_true rfl)
  rw [lg_entry_eq]
  generalize (lg_sl ([.ref h_t, .int x1]) ++ List.replicate (2 - (lg_sl ([.ref h_t, .int x1])).length) Slot.unset).toArray = ls at hl ⊢
  have hl : lv_has ls 2 [(0, .ref h_t), (1, .int x1)] := hl
  generalize hH0 : s.heap = H at hP ⊢
  have hS : va_S A s.heap H [] := by rw [← hH0]; exact va_S.rf
  clear hH0
  generalize ([] : List Loc) = locs at hS ⊢
  refine lv_aload_n hx hb dX11_strands_0 rfl (lv_at hl 0 rfl) ?_
  refine lv_iconst (v := 0) hx hb dX11_strands_1 (by decide) ?_
  refine va_put (D := G) (ci := 10) (v := .int (0 : Int32)) (ty := .int) (C := RX11) (T := TX11) (N := 29) hx hb hts inX11 tyX11 tyX11_ok nmX11 hown hK hP hD hS 0 rfl rfl 0 (by decide) hf83 (fun _ h9 => h9) rfl (by decide +kernel) rfl rfl (Nat.le_of_ble_eq_true rfl) dX11_strands_2 (fun H locs hP hD hS => ?_)
  have hP : va_P G vwCl (w_X11_strands Y h_t B_t (0 : Int32) t_n t_modulus t_rows t_strands t_letters t_listedMany t_listN t_listWhat) H := hP
  have hD : va_D A (w_X11_strands Y h_t B_t (0 : Int32) t_n t_modulus t_rows t_strands t_letters t_listedMany t_listN t_listWhat) := hD
  refine lv_iload_n hx hb dX11_strands_5 rfl (lv_at hl 1 rfl) ?_
  refine lv_i2l hx hb dX11_strands_6 rfl ?_
  refine lv_ldc2 (v := 2) hx hb hown hcL198 dX11_strands_7 ?_
  refine lv_ldc2 (v := 4) hx hb hown hcL163 dX11_strands_10 ?_
  refine mc_iS ⟨hx, hb, hml, hown, hts⟩ hK hE hA hP hD hS (c_X11_in l G Y tF H.size (Int32.toInt64 x1) (2 : Int64) (4 : Int64) h) (va_cwS 3 hts gX11_strands_X11_in rfl rfl rfl (by decide +kernel) ⟨Nat.le_trans (by decide) hRf, Nat.le_trans (by decide) hRl⟩) (fun u => (w_X11_strands Y h_t B_t (0 : Int32) t_n t_modulus t_rows t_strands t_letters t_listedMany t_listN t_listWhat)) [] [0] [0] rfl rfl rfl rfl (by decide) (fun _ => rfl) rfl rfl hl.1 rfl (Nat.le_of_ble_eq_true rfl) dX11_strands_13 (fun r13 u H locs h hP hD hS => ?_)
  try dsimp only at h
  have hP : va_P G vwCl (w_X11_strands Y h_t B_t (0 : Int32) t_n t_modulus t_rows t_strands t_letters t_listedMany t_listN t_listWhat) H := hP
  have hD : va_D A (w_X11_strands Y h_t B_t (0 : Int32) t_n t_modulus t_rows t_strands t_letters t_listedMany t_listN t_listWhat) := hD
  obtain ⟨ht, hf⟩ := h
  refine lv_if_ne (tgt := 21) hx hb dX11_strands_16 (by decide) (fun c9 => ?_) (fun c9 => ?_)
  · have h := ht c9
    refine lv_aload_n hx hb dX11_strands_21 rfl (lv_at hl 0 rfl) ?_
    refine lv_iload_n hx hb dX11_strands_22 rfl (lv_at hl 1 rfl) ?_
    refine va_put (D := G) (ci := 10) (v := .int x1) (ty := .int) (C := RX11) (T := TX11) (N := 29) hx hb hts inX11 tyX11 tyX11_ok nmX11 hown hK hP hD hS 0 rfl rfl 20 (by decide) hf68 (fun _ h9 => h9) rfl (by decide +kernel) rfl rfl (Nat.le_of_ble_eq_true rfl) dX11_strands_23 (fun H locs hP hD hS => ?_)
    have hP : va_P G vwCl (w_X11_strands Y h_t B_t (0 : Int32) t_n t_modulus t_rows x1 t_letters t_listedMany t_listN t_listWhat) H := hP
    have hD : va_D A (w_X11_strands Y h_t B_t (0 : Int32) t_n t_modulus t_rows x1 t_letters t_listedMany t_listN t_listWhat) := hD
    refine lv_aload_n hx hb dX11_strands_26 rfl (lv_at hl 0 rfl) ?_
    refine lv_iconst (v := 0) hx hb dX11_strands_27 (by decide) ?_
    refine va_put (D := G) (ci := 10) (v := .int (0 : Int32)) (ty := .int) (C := RX11) (T := TX11) (N := 29) hx hb hts inX11 tyX11 tyX11_ok nmX11 hown hK hP hD hS 0 rfl rfl 21 (by decide) hf141 (fun _ h9 => h9) rfl (by decide +kernel) rfl rfl (Nat.le_of_ble_eq_true rfl) dX11_strands_28 (fun H locs hP hD hS => ?_)
    have hP : va_P G vwCl (w_X11_strands Y h_t B_t (0 : Int32) t_n t_modulus t_rows x1 (0 : Int32) t_listedMany t_listN t_listWhat) H := hP
    have hD : va_D A (w_X11_strands Y h_t B_t (0 : Int32) t_n t_modulus t_rows x1 (0 : Int32) t_listedMany t_listN t_listWhat) := hD
    refine lv_iconst (v := 1) hx hb dX11_strands_31 (by decide) ?_
    obtain ⟨hz, h⟩ := h
    exact hret (1 : Int32) (0 : Int32) x1 (0 : Int32) H locs ls _ hP hD hS hz h dX11_strands_32
  · have h := hf c9
    refine lv_iconst (v := 0) hx hb dX11_strands_19 (by decide) ?_
    obtain ⟨hz, h⟩ := h
    exact hret (0 : Int32) (0 : Int32) t_strands t_letters H locs ls _ hP hD hS hz h dX11_strands_20

set_option maxHeartbeats 20000000 in
set_option maxRecDepth 100000 in
theorem c_X11_strands (l : Launch) (G : va_G) (Y : Nat → ClassId) (tF sz : Nat) (h_t : Nat) (B_t : Nat → Nat) (t_thrown : Int32) (t_n : Int32) (t_modulus : Int32) (t_rows : Int32) (t_strands : Int32) (t_letters : Int32) (t_listedMany : Int32) (t_listN : Int32) (t_listWhat : Int32) (x1 : Int32) {K : Int32 → Int32 → Int32 → Int32 → Prop} (h : pX11_strands t_thrown t_strands t_letters x1 K) : Met l yX11_strands wsX11_strands ({ frames := 1, cells := 0, slots := 0, locals := 25 }) (PcM G Y tF sz (w_X11_strands Y h_t B_t t_thrown t_n t_modulus t_rows t_strands t_letters t_listedMany t_listN t_listWhat) [.ref h_t, .int x1]) (va_Qi (fun (r : Int32) (u : Int32 × Int32 × Int32) => K r u.1 u.2.1 u.2.2) (fun u t => BM G Y (va_A (w_X11_strands Y h_t B_t t_thrown t_n t_modulus t_rows t_strands t_letters t_listedMany t_listN t_listWhat) sz) (w_X11_strands Y h_t B_t u.1 t_n t_modulus t_rows u.2.1 u.2.2 t_listedMany t_listN t_listWhat) t) (va_A (w_X11_strands Y h_t B_t t_thrown t_n t_modulus t_rows t_strands t_letters t_listedMany t_listN t_listWhat) sz)) 0 0 (va_A (w_X11_strands Y h_t B_t t_thrown t_n t_modulus t_rows t_strands t_letters t_listedMany t_listN t_listWhat) sz) := by
  refine Met.ofW (cc := cX11_strands) (maxL := 2) (ret := (some .boolean)) (by decide +kernel) rfl ?_
  intro p e s m args below meth c s₁ B hml hv
  obtain ⟨rfl, hsz, hP, hK, hD0, hE⟩ := hv
  have hts := atoms_spec (ws := wsX11_strands) B.pre
  have hown : s.vm.findClass RX11 = some m.cls := findClass_of_methodNamed B.named
  have hlocks := B.notSynchronized
  subst hsz
  have hD := hD0.self (sz := s.heap.size)
  exact wk_X11_strands h_t B_t t_thrown t_n t_modulus t_rows t_strands t_letters t_listedMany t_listN t_listWhat x1 B.exec B.bytes hml hown hts hK hE (fun q h => Or.inr h) (Nat.le_refl _) (Nat.le_refl _) (fun r t_thrown t_strands t_letters H locs ls pc hP hD hS hz hk hd => W.zret (v := r) B.exec B.bytes B.returns hz.n (fun t ht hW => ⟨⟨r, (t_thrown, t_strands, t_letters), rfl, hk, by rw [ht]; exact hP, va_K.moved hW.alike hK, hD⟩, hS.F ht⟩) hS.2.2 hd) hP hD h

abbrev w_X11_letter (Y : Nat → ClassId) (h_t : Nat) (B_t : Nat → Nat) (t_thrown : Int32) (t_n : Int32) (t_modulus : Int32) (t_rows : Int32) (t_strands : Int32) (t_letters : Int32) (t_listedMany : Int32) (t_listN : Int32) (t_listWhat : Int32) (t_letter : Nat → Int32) : va_W := [(h_t, .inr (10, [.int t_thrown, .int t_n, .ref (B_t 2), .int t_modulus, .ref (B_t 4), .ref (B_t 5), .ref (B_t 6), .ref (B_t 7), .ref (B_t 8), .ref (B_t 9), .ref (B_t 10), .int t_rows, .ref (B_t 12), .ref (B_t 13), .ref (B_t 14), .ref (B_t 15), .ref (B_t 16), .ref (B_t 17), .ref (B_t 18), .ref (B_t 19), .int t_strands, .int t_letters, .ref (B_t 22), .ref (B_t 23), .ref (B_t 24), .ref (B_t 25), .int t_listedMany, .int t_listN, .int t_listWhat])), ((B_t 22), .inl (Y 0, 24, .inl t_letter))]

set_option maxHeartbeats 20000000 in
set_option maxRecDepth 100000 in
theorem wk_X11_letter {p : Program} {l : Launch} {e : Env} {R : Room} {s : State} {m : MethodId} {args : Array Value} {below : List Frame} {meth : Method} {c : Code} {Q : State → Prop} {G : va_G} {Y : Nat → ClassId} {tF : Nat} {A : Nat → Prop} (h_t : Nat) (B_t : Nat → Nat) (t_thrown : Int32) (t_n : Int32) (t_modulus : Int32) (t_rows : Int32) (t_strands : Int32) (t_letters : Int32) (t_listedMany : Int32) (t_listN : Int32) (t_listWhat : Int32) (t_letter : Nat → Int32) (x1 : Int32) {K : Int32 → Int32 → Int32 → (Nat → Int32) → Prop} (hx : p.tables.exec = Jvm.exec) (hb : c.code = cX11_letter) (hml : c.maxLocals = 2) (hown : s.vm.findClass RX11 = some m.cls) (hts : ∀ w ∈ wsX11_letter, w.before args s = true) (hK : va_K G vwCl (tyL Y) s) (hE : Ev A tF s) (hA : ∀ q, s.heap.size ≤ q → A q) (hRf : 1 ≤ R.frames) (hRl : 25 ≤ R.locals) (hret : ∀ (r : Int32) (t_thrown : Int32) (t_letters : Int32) (t_letter : Nat → Int32) (H : Heap) (locs : List Loc) (ls : Array Slot) (pc : Nat), va_P G vwCl (w_X11_letter Y h_t B_t t_thrown t_n t_modulus t_rows t_strands t_letters t_listedMany t_listN t_listWhat t_letter) H → va_D A (w_X11_letter Y h_t B_t t_thrown t_n t_modulus t_rows t_strands t_letters t_listedMany t_listN t_listWhat t_letter) → va_S A s.heap H locs → K r t_thrown t_letters t_letter → decode cX11_letter pc = .ok (.ireturn, 1) → W p l e R s m args below meth c H locs 0 0 Q (F0 m pc ls [.int r])) (hP : va_P G vwCl (w_X11_letter Y h_t B_t t_thrown t_n t_modulus t_rows t_strands t_letters t_listedMany t_listN t_listWhat t_letter) s.heap) (hD : va_D A (w_X11_letter Y h_t B_t t_thrown t_n t_modulus t_rows t_strands t_letters t_listedMany t_listN t_listWhat t_letter)) (h : pX11_letter t_thrown t_strands t_letters t_letter x1 K) : W p l e R s m args below meth c s.heap [] 0 0 Q (entryFrame m ([.ref h_t, .int x1] : List Value).toArray 2) := by
  have inX11 : ∀ w ∈ u_ws RX11 TX11 29, w ∈ wsX11_letter := by decide +kernel
  have hf141 := hts (.fieldLink RX11 141 "RackBenchModel" "letters" "I") (by decide +kernel)
  have hf68 := hts (.fieldLink RX11 68 "RackBenchModel" "strands" "I") (by decide +kernel)
  have hf71 := hts (.fieldLink RX11 71 "RackBenchModel" "letter" "[I") (by decide +kernel)
  have hf83 := hts (.fieldLink RX11 83 "RackBenchModel" "thrown" "I") (by decide +kernel)
  have hl := lv_entry ([.ref h_t, .int x1]) (n := 2) (Nat.le_of_ble_eq_true rfl)
  rw [lg_entry_eq]
  generalize (lg_sl ([.ref h_t, .int x1]) ++ List.replicate (2 - (lg_sl ([.ref h_t, .int x1])).length) Slot.unset).toArray = ls at hl ⊢
  have hl : lv_has ls 2 [(0, .ref h_t), (1, .int x1)] := hl
  generalize hH0 : s.heap = H at hP ⊢
  have hS : va_S A s.heap H [] := by rw [← hH0]; exact va_S.rf
  clear hH0
  generalize ([] : List Loc) = locs at hS ⊢
  refine lv_aload_n hx hb dX11_letter_0 rfl (lv_at hl 0 rfl) ?_
  refine lv_iconst (v := 0) hx hb dX11_letter_1 (by decide) ?_
  refine va_put (D := G) (ci := 10) (v := .int (0 : Int32)) (ty := .int) (C := RX11) (T := TX11) (N := 29) hx hb hts inX11 tyX11 tyX11_ok nmX11 hown hK hP hD hS 0 rfl rfl 0 (by decide) hf83 (fun _ h9 => h9) rfl (by decide +kernel) rfl rfl (Nat.le_of_ble_eq_true rfl) dX11_letter_2 (fun H locs hP hD hS => ?_)
  have hP : va_P G vwCl (w_X11_letter Y h_t B_t (0 : Int32) t_n t_modulus t_rows t_strands t_letters t_listedMany t_listN t_listWhat t_letter) H := hP
  have hD : va_D A (w_X11_letter Y h_t B_t (0 : Int32) t_n t_modulus t_rows t_strands t_letters t_listedMany t_listN t_listWhat t_letter) := hD
  refine lv_iload_n hx hb dX11_letter_5 rfl (lv_at hl 1 rfl) ?_
  obtain ⟨ht, hf⟩ := h
  refine lv_if_eq (tgt := 40) hx hb dX11_letter_6 (by decide) (fun c9 => ?_) (fun c9 => ?_)
  · have h := ht c9
    refine lv_iconst (v := -1) hx hb dX11_letter_40 (by decide) ?_
    exact hret (-1 : Int32) (0 : Int32) t_letters t_letter H locs ls _ hP hD hS h dX11_letter_41
  · have h := hf c9
    refine lv_iload_n hx hb dX11_letter_9 rfl (lv_at hl 1 rfl) ?_
    refine lv_i2l hx hb dX11_letter_10 rfl ?_
    refine lv_iconst (v := 1) hx hb dX11_letter_11 (by decide) ?_
    refine lv_aload_n hx hb dX11_letter_12 rfl (lv_at hl 0 rfl) ?_
    refine va_get (D := G) (ci := 10) (v := .int t_strands) (C := RX11) (T := TX11) (N := 29) hx hb hts inX11 hown hK hP 0 rfl rfl 20 (by decide) hf68 (fun _ h9 => h9) rfl dX11_letter_13 ?_
    refine lv_isub hx hb dX11_letter_16 ?_
    refine lv_i2l hx hb dX11_letter_17 rfl ?_
    refine lv_aload_n hx hb dX11_letter_18 rfl (lv_at hl 0 rfl) ?_
    refine va_get (D := G) (ci := 10) (v := .int t_strands) (C := RX11) (T := TX11) (N := 29) hx hb hts inX11 hown hK hP 0 rfl rfl 20 (by decide) hf68 (fun _ h9 => h9) rfl dX11_letter_19 ?_
    refine lv_iconst (v := 1) hx hb dX11_letter_22 (by decide) ?_
    refine lv_isub hx hb dX11_letter_23 ?_
    refine lv_i2l hx hb dX11_letter_24 rfl ?_
    refine mc_iS ⟨hx, hb, hml, hown, hts⟩ hK hE hA hP hD hS (c_X11_in l G Y tF H.size (Int32.toInt64 x1) (Int32.toInt64 ((1 : Int32) - t_strands)) (Int32.toInt64 (t_strands - (1 : Int32))) h) (va_cwS 3 hts gX11_letter_X11_in rfl rfl rfl (by decide +kernel) ⟨Nat.le_trans (by decide) hRf, Nat.le_trans (by decide) hRl⟩) (fun u => (w_X11_letter Y h_t B_t (0 : Int32) t_n t_modulus t_rows t_strands t_letters t_listedMany t_listN t_listWhat t_letter)) [] [0, 1] [0, 1] rfl rfl rfl rfl (by decide) (fun _ => rfl) rfl rfl hl.1 rfl (Nat.le_of_ble_eq_true rfl) dX11_letter_25 (fun r25 u H locs h hP hD hS => ?_)
    try dsimp only at h
    have hP : va_P G vwCl (w_X11_letter Y h_t B_t (0 : Int32) t_n t_modulus t_rows t_strands t_letters t_listedMany t_listN t_listWhat t_letter) H := hP
    have hD : va_D A (w_X11_letter Y h_t B_t (0 : Int32) t_n t_modulus t_rows t_strands t_letters t_listedMany t_listN t_listWhat t_letter) := hD
    obtain ⟨ht, hf⟩ := h
    refine lv_if_eq (tgt := 40) hx hb dX11_letter_28 (by decide) (fun c9 => ?_) (fun c9 => ?_)
    · have h := ht c9
      refine lv_iconst (v := -1) hx hb dX11_letter_40 (by decide) ?_
      exact hret (-1 : Int32) (0 : Int32) t_letters t_letter H locs ls _ hP hD hS h dX11_letter_41
    · have h := hf c9
      refine lv_aload_n hx hb dX11_letter_31 rfl (lv_at hl 0 rfl) ?_
      refine va_get (D := G) (ci := 10) (v := .int t_letters) (C := RX11) (T := TX11) (N := 29) hx hb hts inX11 hown hK hP 0 rfl rfl 21 (by decide) hf141 (fun _ h9 => h9) rfl dX11_letter_32 ?_
      refine lv_bipush (v := 24) hx hb dX11_letter_35 (by decide) ?_
      obtain ⟨ht, hf⟩ := h
      refine lv_icmp_ne (tgt := 42) hx hb dX11_letter_37 (by decide) (fun c9 => ?_) (fun c9 => ?_)
      · have h := ht c9
        refine lv_aload_n hx hb dX11_letter_42 rfl (lv_at hl 0 rfl) ?_
        refine va_get (D := G) (ci := 10) (v := .ref (B_t 22)) (C := RX11) (T := TX11) (N := 29) hx hb hts inX11 hown hK hP 0 rfl rfl 22 (by decide) hf71 (fun _ h9 => h9) rfl dX11_letter_43 ?_
        refine lv_aload_n hx hb dX11_letter_46 rfl (lv_at hl 0 rfl) ?_
        refine va_get (D := G) (ci := 10) (v := .int t_letters) (C := RX11) (T := TX11) (N := 29) hx hb hts inX11 hown hK hP 0 rfl rfl 21 (by decide) hf141 (fun _ h9 => h9) rfl dX11_letter_47 ?_
        refine lv_iload_n hx hb dX11_letter_50 rfl (lv_at hl 1 rfl) ?_
        obtain ⟨hin, h⟩ := h
        refine va_iast hx hb hK hP hD hS 1 0 rfl rfl hin dX11_letter_51 (fun H locs hP hD hS => ?_)
        have hP : va_P G vwCl (w_X11_letter Y h_t B_t (0 : Int32) t_n t_modulus t_rows t_strands t_letters t_listedMany t_listN t_listWhat (upd t_letter (Int32.toNatClampNeg t_letters) x1)) H := hP
        have hD : va_D A (w_X11_letter Y h_t B_t (0 : Int32) t_n t_modulus t_rows t_strands t_letters t_listedMany t_listN t_listWhat (upd t_letter (Int32.toNatClampNeg t_letters) x1)) := hD
        refine lv_aload_n hx hb dX11_letter_52 rfl (lv_at hl 0 rfl) ?_
        refine lv_dup hx hb dX11_letter_53 rfl ?_
        refine va_get (D := G) (ci := 10) (v := .int t_letters) (C := RX11) (T := TX11) (N := 29) hx hb hts inX11 hown hK hP 0 rfl rfl 21 (by decide) hf141 (fun _ h9 => h9) rfl dX11_letter_54 ?_
        refine lv_iconst (v := 1) hx hb dX11_letter_57 (by decide) ?_
        refine lv_iadd hx hb dX11_letter_58 ?_
        refine va_put (D := G) (ci := 10) (v := .int (t_letters + (1 : Int32))) (ty := .int) (C := RX11) (T := TX11) (N := 29) hx hb hts inX11 tyX11 tyX11_ok nmX11 hown hK hP hD hS 0 rfl rfl 21 (by decide) hf141 (fun _ h9 => h9) rfl (by decide +kernel) rfl rfl (Nat.le_of_ble_eq_true rfl) dX11_letter_59 (fun H locs hP hD hS => ?_)
        have hP : va_P G vwCl (w_X11_letter Y h_t B_t (0 : Int32) t_n t_modulus t_rows t_strands (t_letters + (1 : Int32)) t_listedMany t_listN t_listWhat (upd t_letter (Int32.toNatClampNeg t_letters) x1)) H := hP
        have hD : va_D A (w_X11_letter Y h_t B_t (0 : Int32) t_n t_modulus t_rows t_strands (t_letters + (1 : Int32)) t_listedMany t_listN t_listWhat (upd t_letter (Int32.toNatClampNeg t_letters) x1)) := hD
        refine lv_aload_n hx hb dX11_letter_62 rfl (lv_at hl 0 rfl) ?_
        refine va_get (D := G) (ci := 10) (v := .int (t_letters + (1 : Int32))) (C := RX11) (T := TX11) (N := 29) hx hb hts inX11 hown hK hP 0 rfl rfl 21 (by decide) hf141 (fun _ h9 => h9) rfl dX11_letter_63 ?_
        exact hret (t_letters + (1 : Int32)) (0 : Int32) (t_letters + (1 : Int32)) (upd t_letter (Int32.toNatClampNeg t_letters) x1) H locs ls _ hP hD hS h dX11_letter_66
      · have h := hf c9
        refine lv_iconst (v := -1) hx hb dX11_letter_40 (by decide) ?_
        exact hret (-1 : Int32) (0 : Int32) t_letters t_letter H locs ls _ hP hD hS h dX11_letter_41

set_option maxHeartbeats 20000000 in
set_option maxRecDepth 100000 in
theorem c_X11_letter (l : Launch) (G : va_G) (Y : Nat → ClassId) (tF sz : Nat) (h_t : Nat) (B_t : Nat → Nat) (t_thrown : Int32) (t_n : Int32) (t_modulus : Int32) (t_rows : Int32) (t_strands : Int32) (t_letters : Int32) (t_listedMany : Int32) (t_listN : Int32) (t_listWhat : Int32) (t_letter : Nat → Int32) (x1 : Int32) {K : Int32 → Int32 → Int32 → (Nat → Int32) → Prop} (h : pX11_letter t_thrown t_strands t_letters t_letter x1 K) : Met l yX11_letter wsX11_letter ({ frames := 1, cells := 0, slots := 0, locals := 25 }) (PcM G Y tF sz (w_X11_letter Y h_t B_t t_thrown t_n t_modulus t_rows t_strands t_letters t_listedMany t_listN t_listWhat t_letter) [.ref h_t, .int x1]) (va_Qi (fun (r : Int32) (u : Int32 × Int32 × (Nat → Int32)) => K r u.1 u.2.1 u.2.2) (fun u t => BM G Y (va_A (w_X11_letter Y h_t B_t t_thrown t_n t_modulus t_rows t_strands t_letters t_listedMany t_listN t_listWhat t_letter) sz) (w_X11_letter Y h_t B_t u.1 t_n t_modulus t_rows t_strands u.2.1 t_listedMany t_listN t_listWhat u.2.2) t) (va_A (w_X11_letter Y h_t B_t t_thrown t_n t_modulus t_rows t_strands t_letters t_listedMany t_listN t_listWhat t_letter) sz)) 0 0 (va_A (w_X11_letter Y h_t B_t t_thrown t_n t_modulus t_rows t_strands t_letters t_listedMany t_listN t_listWhat t_letter) sz) := by
  refine Met.ofW (cc := cX11_letter) (maxL := 2) (ret := (some .int)) (by decide +kernel) rfl ?_
  intro p e s m args below meth c s₁ B hml hv
  obtain ⟨rfl, hsz, hP, hK, hD0, hE⟩ := hv
  have hts := atoms_spec (ws := wsX11_letter) B.pre
  have hown : s.vm.findClass RX11 = some m.cls := findClass_of_methodNamed B.named
  have hlocks := B.notSynchronized
  subst hsz
  have hD := hD0.self (sz := s.heap.size)
  exact wk_X11_letter h_t B_t t_thrown t_n t_modulus t_rows t_strands t_letters t_listedMany t_listN t_listWhat t_letter x1 B.exec B.bytes hml hown hts hK hE (fun q h => Or.inr h) (Nat.le_refl _) (Nat.le_refl _) (fun r t_thrown t_letters t_letter H locs ls pc hP hD hS hk hd => W.iret (v := r) B.exec B.bytes B.returns (fun t ht hW => ⟨⟨r, (t_thrown, t_letters, t_letter), rfl, hk, by rw [ht]; exact hP, va_K.moved hW.alike hK, hD⟩, hS.F ht⟩) hS.2.2 hd) hP hD h

abbrev w_X11_sumOf (Y : Nat → ClassId) (h_t : Nat) (B_t : Nat → Nat) (t_thrown : Int32) (t_n : Int32) (t_modulus : Int32) (t_rows : Int32) (t_strands : Int32) (t_letters : Int32) (t_listedMany : Int32) (t_listN : Int32) (t_listWhat : Int32) (t_colour : Nat → Int32) (t_letter : Nat → Int32) (t_table : Nat → Int32) (t_twists : Nat → Int32) : va_W := [(h_t, .inr (10, [.int t_thrown, .int t_n, .ref (B_t 2), .int t_modulus, .ref (B_t 4), .ref (B_t 5), .ref (B_t 6), .ref (B_t 7), .ref (B_t 8), .ref (B_t 9), .ref (B_t 10), .int t_rows, .ref (B_t 12), .ref (B_t 13), .ref (B_t 14), .ref (B_t 15), .ref (B_t 16), .ref (B_t 17), .ref (B_t 18), .ref (B_t 19), .int t_strands, .int t_letters, .ref (B_t 22), .ref (B_t 23), .ref (B_t 24), .ref (B_t 25), .int t_listedMany, .int t_listN, .int t_listWhat])), ((B_t 23), .inl (Y 0, 4, .inl t_colour)), ((B_t 22), .inl (Y 0, 24, .inl t_letter)), ((B_t 2), .inl (Y 0, 64, .inl t_table)), ((B_t 4), .inl (Y 0, 64, .inl t_twists))]

set_option maxHeartbeats 20000000 in
set_option maxRecDepth 100000 in
theorem wk_X11_sumOf {p : Program} {l : Launch} {e : Env} {R : Room} {s : State} {m : MethodId} {args : Array Value} {below : List Frame} {meth : Method} {c : Code} {Q : State → Prop} {G : va_G} {Y : Nat → ClassId} {tF : Nat} {A : Nat → Prop} (h_t : Nat) (B_t : Nat → Nat) (t_thrown : Int32) (t_n : Int32) (t_modulus : Int32) (t_rows : Int32) (t_strands : Int32) (t_letters : Int32) (t_listedMany : Int32) (t_listN : Int32) (t_listWhat : Int32) (t_colour : Nat → Int32) (t_letter : Nat → Int32) (t_table : Nat → Int32) (t_twists : Nat → Int32) (x1 : Int32) {K : Int32 → (Nat → Int32) → Prop} (hx : p.tables.exec = Jvm.exec) (hb : c.code = cX11_sumOf) (hml : c.maxLocals = 9) (hown : s.vm.findClass RX11 = some m.cls) (hts : ∀ w ∈ wsX11_sumOf, w.before args s = true) (hK : va_K G vwCl (tyL Y) s) (hE : Ev A tF s) (hA : ∀ q, s.heap.size ≤ q → A q) (hRf : 1 ≤ R.frames) (hRl : 24 ≤ R.locals) (hret : ∀ (r : Int32) (t_colour : Nat → Int32) (H : Heap) (locs : List Loc) (ls : Array Slot) (pc : Nat), va_P G vwCl (w_X11_sumOf Y h_t B_t t_thrown t_n t_modulus t_rows t_strands t_letters t_listedMany t_listN t_listWhat t_colour t_letter t_table t_twists) H → va_D A (w_X11_sumOf Y h_t B_t t_thrown t_n t_modulus t_rows t_strands t_letters t_listedMany t_listN t_listWhat t_colour t_letter t_table t_twists) → va_S A s.heap H locs → K r t_colour → decode cX11_sumOf pc = .ok (.ireturn, 1) → W p l e R s m args below meth c H locs 0 0 Q (F0 m pc ls [.int r])) (hP : va_P G vwCl (w_X11_sumOf Y h_t B_t t_thrown t_n t_modulus t_rows t_strands t_letters t_listedMany t_listN t_listWhat t_colour t_letter t_table t_twists) s.heap) (hD : va_D A (w_X11_sumOf Y h_t B_t t_thrown t_n t_modulus t_rows t_strands t_letters t_listedMany t_listN t_listWhat t_colour t_letter t_table t_twists)) (h : pX11_sumOf t_n t_modulus t_strands t_letters t_colour t_letter t_table t_twists x1 K) : W p l e R s m args below meth c s.heap [] 0 0 Q (entryFrame m ([.ref h_t, .int x1] : List Value).toArray 9) := by
  have inX11 : ∀ w ∈ u_ws RX11 TX11 29, w ∈ wsX11_sumOf := by decide +kernel
  have hf141 := hts (.fieldLink RX11 141 "RackBenchModel" "letters" "I") (by decide +kernel)
  have hf17 := hts (.fieldLink RX11 17 "RackBenchModel" "modulus" "I") (by decide +kernel)
  have hf68 := hts (.fieldLink RX11 68 "RackBenchModel" "strands" "I") (by decide +kernel)
  have hf71 := hts (.fieldLink RX11 71 "RackBenchModel" "letter" "[I") (by decide +kernel)
  have hf74 := hts (.fieldLink RX11 74 "RackBenchModel" "colour" "[I") (by decide +kernel)
  have hf9 := hts (.fieldLink RX11 9 "RackBenchModel" "n" "I") (by decide +kernel)
  have hl := lv_entry ([.ref h_t, .int x1]) (n := 9) (Nat.le_of_ble_eq_true rfl)
  rw [lg_entry_eq]
  generalize (lg_sl ([.ref h_t, .int x1]) ++ List.replicate (9 - (lg_sl ([.ref h_t, .int x1])).length) Slot.unset).toArray = ls at hl ⊢
  have hl : lv_has ls 9 [(0, .ref h_t), (1, .int x1)] := hl
  generalize hH0 : s.heap = H at hP ⊢
  have hS : va_S A s.heap H [] := by rw [← hH0]; exact va_S.rf
  clear hH0
  generalize ([] : List Loc) = locs at hS ⊢
  refine lv_iload_n hx hb dX11_sumOf_0 rfl (lv_at hl 1 rfl) ?_
  refine lv_istore_n (lv' := [(2, .int x1), (0, .ref h_t), (1, .int x1)]) hx hb dX11_sumOf_1 rfl hl (by decide) rfl (fun ls hl => ?_)
  refine lv_iconst (v := 0) hx hb dX11_sumOf_2 (by decide) ?_
  refine lv_istore_n (lv' := [(3, .int (0 : Int32)), (2, .int x1), (0, .ref h_t), (1, .int x1)]) hx hb dX11_sumOf_3 rfl hl (by decide) rfl (fun ls hl => ?_)
  obtain ⟨I4, m4, hI4, hB4⟩ := h
  have L4 : ∀ (x1 : Int32) (I4 : Int32 → Int32 → (Nat → Int32) → Prop) (m4 : Int32 → Int32 → (Nat → Int32) → Nat), (∀ (x2 : Int32) (x3 : Int32) (t_colour : Nat → Int32), I4 x2 x3 t_colour → pX11_sumOf_4 t_n t_modulus t_strands t_letters t_letter t_table t_twists K x1 x2 x3 t_colour (fun x2' x3' t_colour' => I4 x2' x3' t_colour' ∧ m4 x2' x3' t_colour' < m4 x2 x3 t_colour)) → ∀ (n : Nat) (x2 : Int32) (x3 : Int32) (t_colour : Nat → Int32) (H : Heap) (locs : List Loc) (ls : Array Slot), I4 x2 x3 t_colour → m4 x2 x3 t_colour < n → va_P G vwCl (w_X11_sumOf Y h_t B_t t_thrown t_n t_modulus t_rows t_strands t_letters t_listedMany t_listN t_listWhat t_colour t_letter t_table t_twists) H → va_D A (w_X11_sumOf Y h_t B_t t_thrown t_n t_modulus t_rows t_strands t_letters t_listedMany t_listN t_listWhat t_colour t_letter t_table t_twists) → va_S A s.heap H locs → lv_has ls 9 [(0, .ref h_t), (1, .int x1), (2, .int x2), (3, .int x3)] → W p l e R s m args below meth c H locs 0 0 Q (F0 m 4 ls []) := by
    intro x1 I4 m4 hB4 n
    induction n with
    | zero => intro x2 x3 t_colour H locs ls _ hm; exact absurd hm (Nat.not_lt_zero _)
    | succ n ih =>
      intro x2 x3 t_colour H locs ls hI hm hP hD hS hl
      obtain ⟨R4, h, rec4⟩ : ∃ R4 : Int32 → Int32 → (Nat → Int32) → Prop, pX11_sumOf_4 t_n t_modulus t_strands t_letters t_letter t_table t_twists K x1 x2 x3 t_colour R4 ∧ ∀ (x2 : Int32) (x3 : Int32) (t_colour : Nat → Int32) (H : Heap) (locs : List Loc) (ls : Array Slot), R4 x2 x3 t_colour → va_P G vwCl (w_X11_sumOf Y h_t B_t t_thrown t_n t_modulus t_rows t_strands t_letters t_listedMany t_listN t_listWhat t_colour t_letter t_table t_twists) H → va_D A (w_X11_sumOf Y h_t B_t t_thrown t_n t_modulus t_rows t_strands t_letters t_listedMany t_listN t_listWhat t_colour t_letter t_table t_twists) → va_S A s.heap H locs → lv_has ls 9 [(0, .ref h_t), (1, .int x1), (2, .int x2), (3, .int x3)] → W p l e R s m args below meth c H locs 0 0 Q (F0 m 4 ls []) := ⟨_, hB4 x2 x3 t_colour hI, fun x2 x3 t_colour H locs ls hh hP hD hS hl => ih x2 x3 t_colour H locs ls hh.1 (Nat.lt_of_lt_of_le hh.2 (Nat.le_of_lt_succ hm)) hP hD hS hl⟩
      refine lv_iload_n hx hb dX11_sumOf_4 rfl (lv_at hl 3 rfl) ?_
      refine lv_aload_n hx hb dX11_sumOf_5 rfl (lv_at hl 0 rfl) ?_
      refine va_get (D := G) (ci := 10) (v := .int t_strands) (C := RX11) (T := TX11) (N := 29) hx hb hts inX11 hown hK hP 0 rfl rfl 20 (by decide) hf68 (fun _ h9 => h9) rfl dX11_sumOf_6 ?_
      obtain ⟨ht, hf⟩ := h
      refine lv_icmp_ge (tgt := 37) hx hb dX11_sumOf_9 (by decide) (fun c9 => ?_) (fun c9 => ?_)
      · have h := ht c9
        refine lv_iconst (v := 0) hx hb dX11_sumOf_37 (by decide) ?_
        refine lv_istore_n (lv' := [(3, .int (0 : Int32)), (0, .ref h_t), (1, .int x1), (2, .int x2)]) hx hb dX11_sumOf_38 rfl hl (by decide) rfl (fun ls hl => ?_)
        refine lv_iconst (v := 0) hx hb dX11_sumOf_39 (by decide) ?_
        refine lv_istore (lv' := [(4, .int (0 : Int32)), (3, .int (0 : Int32)), (0, .ref h_t), (1, .int x1), (2, .int x2)]) hx hb dX11_sumOf_40 hl (by decide) rfl (fun ls hl => ?_)
        obtain ⟨I42, m42, hI42, hB42⟩ := h
        have L42 : ∀ (x1 : Int32) (I42 : Int32 → Int32 → (Nat → Int32) → Prop) (m42 : Int32 → Int32 → (Nat → Int32) → Nat), (∀ (x3 : Int32) (x4 : Int32) (t_colour : Nat → Int32), I42 x3 x4 t_colour → pX11_sumOf_42 t_n t_modulus t_strands t_letters t_letter t_table t_twists R4 K x1 x3 x4 t_colour (fun x3' x4' t_colour' => I42 x3' x4' t_colour' ∧ m42 x3' x4' t_colour' < m42 x3 x4 t_colour)) → ∀ (n : Nat) (x3 : Int32) (x4 : Int32) (t_colour : Nat → Int32) (H : Heap) (locs : List Loc) (ls : Array Slot), I42 x3 x4 t_colour → m42 x3 x4 t_colour < n → va_P G vwCl (w_X11_sumOf Y h_t B_t t_thrown t_n t_modulus t_rows t_strands t_letters t_listedMany t_listN t_listWhat t_colour t_letter t_table t_twists) H → va_D A (w_X11_sumOf Y h_t B_t t_thrown t_n t_modulus t_rows t_strands t_letters t_listedMany t_listN t_listWhat t_colour t_letter t_table t_twists) → va_S A s.heap H locs → lv_has ls 9 [(0, .ref h_t), (1, .int x1), (3, .int x3), (4, .int x4)] → W p l e R s m args below meth c H locs 0 0 Q (F0 m 42 ls []) := by
          intro x1 I42 m42 hB42 n
          induction n with
          | zero => intro x3 x4 t_colour H locs ls _ hm; exact absurd hm (Nat.not_lt_zero _)
          | succ n ih =>
            intro x3 x4 t_colour H locs ls hI hm hP hD hS hl
            obtain ⟨R42, h, rec42⟩ : ∃ R42 : Int32 → Int32 → (Nat → Int32) → Prop, pX11_sumOf_42 t_n t_modulus t_strands t_letters t_letter t_table t_twists R4 K x1 x3 x4 t_colour R42 ∧ ∀ (x3 : Int32) (x4 : Int32) (t_colour : Nat → Int32) (H : Heap) (locs : List Loc) (ls : Array Slot), R42 x3 x4 t_colour → va_P G vwCl (w_X11_sumOf Y h_t B_t t_thrown t_n t_modulus t_rows t_strands t_letters t_listedMany t_listN t_listWhat t_colour t_letter t_table t_twists) H → va_D A (w_X11_sumOf Y h_t B_t t_thrown t_n t_modulus t_rows t_strands t_letters t_listedMany t_listN t_listWhat t_colour t_letter t_table t_twists) → va_S A s.heap H locs → lv_has ls 9 [(0, .ref h_t), (1, .int x1), (3, .int x3), (4, .int x4)] → W p l e R s m args below meth c H locs 0 0 Q (F0 m 42 ls []) := ⟨_, hB42 x3 x4 t_colour hI, fun x3 x4 t_colour H locs ls hh hP hD hS hl => ih x3 x4 t_colour H locs ls hh.1 (Nat.lt_of_lt_of_le hh.2 (Nat.le_of_lt_succ hm)) hP hD hS hl⟩
            refine lv_iload hx hb dX11_sumOf_42 (lv_at hl 3 rfl) ?_
            refine lv_aload_n hx hb dX11_sumOf_44 rfl (lv_at hl 0 rfl) ?_
            refine va_get (D := G) (ci := 10) (v := .int t_letters) (C := RX11) (T := TX11) (N := 29) hx hb hts inX11 hown hK hP 0 rfl rfl 21 (by decide) hf141 (fun _ h9 => h9) rfl dX11_sumOf_45 ?_
            obtain ⟨ht, hf⟩ := h
            refine lv_icmp_ge (tgt := 194) hx hb dX11_sumOf_48 (by decide) (fun c9 => ?_) (fun c9 => ?_)
            · have h := ht c9
              refine lv_iload_n hx hb dX11_sumOf_194 rfl (lv_at hl 1 rfl) ?_
              refine lv_istore_n (lv' := [(2, .int x1), (0, .ref h_t), (1, .int x1), (3, .int x3), (4, .int x4)]) hx hb dX11_sumOf_195 rfl hl (by decide) rfl (fun ls hl => ?_)
              refine lv_iconst (v := 0) hx hb dX11_sumOf_196 (by decide) ?_
              refine lv_istore (lv' := [(4, .int (0 : Int32)), (2, .int x1), (0, .ref h_t), (1, .int x1), (3, .int x3)]) hx hb dX11_sumOf_197 hl (by decide) rfl (fun ls hl => ?_)
              obtain ⟨I199, m199, hI199, hB199⟩ := h
              have L199 : ∀ (x3 : Int32) (t_colour : Nat → Int32) (I199 : Int32 → Int32 → Prop) (m199 : Int32 → Int32 → Nat), (∀ (x2 : Int32) (x4 : Int32), I199 x2 x4 → pX11_sumOf_199 t_n t_modulus t_strands t_letters t_letter t_table t_twists R42 K x3 t_colour x2 x4 (fun x2' x4' => I199 x2' x4' ∧ m199 x2' x4' < m199 x2 x4)) → ∀ (n : Nat) (x2 : Int32) (x4 : Int32) (H : Heap) (locs : List Loc) (ls : Array Slot), I199 x2 x4 → m199 x2 x4 < n → va_P G vwCl (w_X11_sumOf Y h_t B_t t_thrown t_n t_modulus t_rows t_strands t_letters t_listedMany t_listN t_listWhat t_colour t_letter t_table t_twists) H → va_D A (w_X11_sumOf Y h_t B_t t_thrown t_n t_modulus t_rows t_strands t_letters t_listedMany t_listN t_listWhat t_colour t_letter t_table t_twists) → va_S A s.heap H locs → lv_has ls 9 [(0, .ref h_t), (2, .int x2), (3, .int x3), (4, .int x4)] → W p l e R s m args below meth c H locs 0 0 Q (F0 m 199 ls []) := by
                intro x3 t_colour I199 m199 hB199 n
                induction n with
                | zero => intro x2 x4 H locs ls _ hm; exact absurd hm (Nat.not_lt_zero _)
                | succ n ih =>
                  intro x2 x4 H locs ls hI hm hP hD hS hl
                  obtain ⟨R199, h, rec199⟩ : ∃ R199 : Int32 → Int32 → Prop, pX11_sumOf_199 t_n t_modulus t_strands t_letters t_letter t_table t_twists R42 K x3 t_colour x2 x4 R199 ∧ ∀ (x2 : Int32) (x4 : Int32) (H : Heap) (locs : List Loc) (ls : Array Slot), R199 x2 x4 → va_P G vwCl (w_X11_sumOf Y h_t B_t t_thrown t_n t_modulus t_rows t_strands t_letters t_listedMany t_listN t_listWhat t_colour t_letter t_table t_twists) H → va_D A (w_X11_sumOf Y h_t B_t t_thrown t_n t_modulus t_rows t_strands t_letters t_listedMany t_listN t_listWhat t_colour t_letter t_table t_twists) → va_S A s.heap H locs → lv_has ls 9 [(0, .ref h_t), (2, .int x2), (3, .int x3), (4, .int x4)] → W p l e R s m args below meth c H locs 0 0 Q (F0 m 199 ls []) := ⟨_, hB199 x2 x4 hI, fun x2 x4 H locs ls hh hP hD hS hl => ih x2 x4 H locs ls hh.1 (Nat.lt_of_lt_of_le hh.2 (Nat.le_of_lt_succ hm)) hP hD hS hl⟩
                  refine lv_iload hx hb dX11_sumOf_199 (lv_at hl 3 rfl) ?_
                  refine lv_aload_n hx hb dX11_sumOf_201 rfl (lv_at hl 0 rfl) ?_
                  refine va_get (D := G) (ci := 10) (v := .int t_strands) (C := RX11) (T := TX11) (N := 29) hx hb hts inX11 hown hK hP 0 rfl rfl 20 (by decide) hf68 (fun _ h9 => h9) rfl dX11_sumOf_202 ?_
                  obtain ⟨ht, hf⟩ := h
                  refine lv_icmp_ge (tgt := 239) hx hb dX11_sumOf_205 (by decide) (fun c9 => ?_) (fun c9 => ?_)
                  · have h := ht c9
                    refine lv_iload_n hx hb dX11_sumOf_239 rfl (lv_at hl 2 rfl) ?_
                    refine lv_aload_n hx hb dX11_sumOf_240 rfl (lv_at hl 0 rfl) ?_
                    refine va_get (D := G) (ci := 10) (v := .int t_modulus) (C := RX11) (T := TX11) (N := 29) hx hb hts inX11 hown hK hP 0 rfl rfl 3 (by decide) hf17 (fun _ h9 => h9) rfl dX11_sumOf_241 ?_
                    refine mc_iS ⟨hx, hb, hml, hown, hts⟩ hK hE hA hP hD hS (c_J9_floorMod_7cf53 l G Y tF H.size x3 t_modulus h) (va_cwS 2 hts gX11_sumOf_J9_floorMod_7cf53 rfl rfl rfl (by decide +kernel) ⟨Nat.le_trans (by decide) hRf, Nat.le_trans (by decide) hRl⟩) (fun u => (w_X11_sumOf Y h_t B_t t_thrown t_n t_modulus t_rows t_strands t_letters t_listedMany t_listN t_listWhat t_colour t_letter t_table t_twists)) [] [0, 1, 2, 3, 4] [0, 1, 2, 3, 4] rfl rfl rfl rfl (by decide) (fun _ => rfl) rfl rfl hl.1 rfl (Nat.le_of_ble_eq_true rfl) dX11_sumOf_244 (fun r244 u H locs h hP hD hS => ?_)
                    try dsimp only at h
                    have hP : va_P G vwCl (w_X11_sumOf Y h_t B_t t_thrown t_n t_modulus t_rows t_strands t_letters t_listedMany t_listN t_listWhat t_colour t_letter t_table t_twists) H := hP
                    have hD : va_D A (w_X11_sumOf Y h_t B_t t_thrown t_n t_modulus t_rows t_strands t_letters t_listedMany t_listN t_listWhat t_colour t_letter t_table t_twists) := hD
                    exact hret r244 t_colour H locs ls _ hP hD hS h dX11_sumOf_247
                  · have h := hf c9
                    refine lv_aload_n hx hb dX11_sumOf_208 rfl (lv_at hl 0 rfl) ?_
                    refine va_get (D := G) (ci := 10) (v := .ref (B_t 23)) (C := RX11) (T := TX11) (N := 29) hx hb hts inX11 hown hK hP 0 rfl rfl 23 (by decide) hf74 (fun _ h9 => h9) rfl dX11_sumOf_209 ?_
                    refine lv_iload hx hb dX11_sumOf_212 (lv_at hl 3 rfl) ?_
                    obtain ⟨hin, h⟩ := h
                    refine va_iald hx hb hK hP 1 0 rfl rfl hin dX11_sumOf_214 ?_
                    refine lv_iload_n hx hb dX11_sumOf_215 rfl (lv_at hl 1 rfl) ?_
                    refine lv_aload_n hx hb dX11_sumOf_216 rfl (lv_at hl 0 rfl) ?_
                    refine va_get (D := G) (ci := 10) (v := .int t_n) (C := RX11) (T := TX11) (N := 29) hx hb hts inX11 hown hK hP 0 rfl rfl 1 (by decide) hf9 (fun _ h9 => h9) rfl dX11_sumOf_217 ?_
                    obtain ⟨hne, h⟩ := h
                    refine lv_irem hx hb dX11_sumOf_220 hne ?_
                    obtain ⟨ht, hf⟩ := h
                    refine lv_icmp_eq (tgt := 226) hx hb dX11_sumOf_221 (by decide) (fun c9 => ?_) (fun c9 => ?_)
                    · have h := ht c9
                      refine lv_iload_n hx hb dX11_sumOf_226 rfl (lv_at hl 1 rfl) ?_
                      refine lv_aload_n hx hb dX11_sumOf_227 rfl (lv_at hl 0 rfl) ?_
                      refine va_get (D := G) (ci := 10) (v := .int t_n) (C := RX11) (T := TX11) (N := 29) hx hb hts inX11 hown hK hP 0 rfl rfl 1 (by decide) hf9 (fun _ h9 => h9) rfl dX11_sumOf_228 ?_
                      obtain ⟨hne, h⟩ := h
                      refine lv_idiv hx hb dX11_sumOf_231 hne ?_
                      refine lv_istore_n (lv' := [(2, .int (x2 / t_n)), (0, .ref h_t), (3, .int x3), (4, .int x4)]) hx hb dX11_sumOf_232 rfl hl (by decide) rfl (fun ls hl => ?_)
                      refine lv_iinc (v := (x4 + 1)) (lv' := [(4, .int (x4 + 1)), (2, .int (x2 / t_n)), (0, .ref h_t), (3, .int x3)]) hx hb dX11_sumOf_233 hl (k := 3) rfl rfl (by decide) rfl (fun ls hl => ?_)
                      refine lv_goto (tgt := 199) hx hb dX11_sumOf_236 (by decide) ?_
                      exact rec199 (x2 / t_n) (x4 + 1) H locs ls h hP hD hS (lv_sub hl [2, 1, 3, 0] rfl)
                    · have h := hf c9
                      refine lv_iconst (v := -1) hx hb dX11_sumOf_224 (by decide) ?_
                      exact hret (-1 : Int32) t_colour H locs ls _ hP hD hS h dX11_sumOf_225
              exact L199 x3 t_colour I199 m199 hB199 _ x1 (0 : Int32) H locs ls hI199 (Nat.lt_succ_self _) hP hD hS (lv_sub hl [2, 1, 4, 0] rfl)
            · have h := hf c9
              refine lv_aload_n hx hb dX11_sumOf_51 rfl (lv_at hl 0 rfl) ?_
              refine va_get (D := G) (ci := 10) (v := .ref (B_t 22)) (C := RX11) (T := TX11) (N := 29) hx hb hts inX11 hown hK hP 0 rfl rfl 22 (by decide) hf71 (fun _ h9 => h9) rfl dX11_sumOf_52 ?_
              refine lv_iload hx hb dX11_sumOf_55 (lv_at hl 3 rfl) ?_
              obtain ⟨hin, h⟩ := h
              refine va_iald hx hb hK hP 2 0 rfl rfl hin dX11_sumOf_57 ?_
              refine va_mabs hx hb (by rw [hml]; exact hl.1.symm) hown (hts (.methodLink RX11 215 Lib.Math.abs.name) (by decide +kernel)) (hts (.static Lib.Math.abs.name) (by decide +kernel)) (hts (.initialized "java/lang/Math") (by decide +kernel)) (hts (.code Lib.Math.abs.name Lib.Math.abs.code 1 (some .int)) (by decide +kernel)) (Nat.le_trans (by decide) hRf) (Nat.le_trans (by decide) hRl) (Nat.zero_le _) (Nat.zero_le _) dX11_sumOf_58 ?_
              refine lv_iconst (v := 1) hx hb dX11_sumOf_61 (by decide) ?_
              refine lv_isub hx hb dX11_sumOf_62 ?_
              refine lv_istore (lv' := [(5, .int ((if 0 ≤ (t_letter (Int32.toNatClampNeg x4)) then (t_letter (Int32.toNatClampNeg x4)) else 0 - (t_letter (Int32.toNatClampNeg x4))) - (1 : Int32))), (0, .ref h_t), (1, .int x1), (3, .int x3), (4, .int x4)]) hx hb dX11_sumOf_63 hl (by decide) rfl (fun ls hl => ?_)
              refine lv_aload_n hx hb dX11_sumOf_65 rfl (lv_at hl 1 rfl) ?_
              refine va_get (D := G) (ci := 10) (v := .ref (B_t 23)) (C := RX11) (T := TX11) (N := 29) hx hb hts inX11 hown hK hP 0 rfl rfl 23 (by decide) hf74 (fun _ h9 => h9) rfl dX11_sumOf_66 ?_
              refine lv_iload hx hb dX11_sumOf_69 (lv_at hl 0 rfl) ?_
              obtain ⟨hin, h⟩ := h
              refine va_iald hx hb hK hP 1 0 rfl rfl hin dX11_sumOf_71 ?_
              refine lv_istore (lv' := [(6, .int (t_colour (Int32.toNatClampNeg ((if 0 ≤ (t_letter (Int32.toNatClampNeg x4)) then (t_letter (Int32.toNatClampNeg x4)) else 0 - (t_letter (Int32.toNatClampNeg x4))) - (1 : Int32))))), (5, .int ((if 0 ≤ (t_letter (Int32.toNatClampNeg x4)) then (t_letter (Int32.toNatClampNeg x4)) else 0 - (t_letter (Int32.toNatClampNeg x4))) - (1 : Int32))), (0, .ref h_t), (1, .int x1), (3, .int x3), (4, .int x4)]) hx hb dX11_sumOf_72 hl (by decide) rfl (fun ls hl => ?_)
              refine lv_aload_n hx hb dX11_sumOf_74 rfl (lv_at hl 2 rfl) ?_
              refine va_get (D := G) (ci := 10) (v := .ref (B_t 23)) (C := RX11) (T := TX11) (N := 29) hx hb hts inX11 hown hK hP 0 rfl rfl 23 (by decide) hf74 (fun _ h9 => h9) rfl dX11_sumOf_75 ?_
              refine lv_iload hx hb dX11_sumOf_78 (lv_at hl 1 rfl) ?_
              refine lv_iconst (v := 1) hx hb dX11_sumOf_80 (by decide) ?_
              refine lv_iadd hx hb dX11_sumOf_81 ?_
              obtain ⟨hin, h⟩ := h
              refine va_iald hx hb hK hP 1 0 rfl rfl hin dX11_sumOf_82 ?_
              refine lv_istore (lv' := [(7, .int (t_colour (Int32.toNatClampNeg (((if 0 ≤ (t_letter (Int32.toNatClampNeg x4)) then (t_letter (Int32.toNatClampNeg x4)) else 0 - (t_letter (Int32.toNatClampNeg x4))) - (1 : Int32)) + (1 : Int32))))), (6, .int (t_colour (Int32.toNatClampNeg ((if 0 ≤ (t_letter (Int32.toNatClampNeg x4)) then (t_letter (Int32.toNatClampNeg x4)) else 0 - (t_letter (Int32.toNatClampNeg x4))) - (1 : Int32))))), (5, .int ((if 0 ≤ (t_letter (Int32.toNatClampNeg x4)) then (t_letter (Int32.toNatClampNeg x4)) else 0 - (t_letter (Int32.toNatClampNeg x4))) - (1 : Int32))), (0, .ref h_t), (1, .int x1), (3, .int x3), (4, .int x4)]) hx hb dX11_sumOf_83 hl (by decide) rfl (fun ls hl => ?_)
              refine lv_aload_n hx hb dX11_sumOf_85 rfl (lv_at hl 3 rfl) ?_
              refine va_get (D := G) (ci := 10) (v := .ref (B_t 22)) (C := RX11) (T := TX11) (N := 29) hx hb hts inX11 hown hK hP 0 rfl rfl 22 (by decide) hf71 (fun _ h9 => h9) rfl dX11_sumOf_86 ?_
              refine lv_iload hx hb dX11_sumOf_89 (lv_at hl 6 rfl) ?_
              obtain ⟨hin, h⟩ := h
              refine va_iald hx hb hK hP 2 0 rfl rfl hin dX11_sumOf_91 ?_
              obtain ⟨ht, hf⟩ := h
              refine lv_if_le (tgt := 135) hx hb dX11_sumOf_92 (by decide) (fun c9 => ?_) (fun c9 => ?_)
              · have h := ht c9
                refine lv_iconst (v := 0) hx hb dX11_sumOf_135 (by decide) ?_
                refine lv_istore (lv' := [(8, .int (0 : Int32)), (7, .int (t_colour (Int32.toNatClampNeg (((if 0 ≤ (t_letter (Int32.toNatClampNeg x4)) then (t_letter (Int32.toNatClampNeg x4)) else 0 - (t_letter (Int32.toNatClampNeg x4))) - (1 : Int32)) + (1 : Int32))))), (6, .int (t_colour (Int32.toNatClampNeg ((if 0 ≤ (t_letter (Int32.toNatClampNeg x4)) then (t_letter (Int32.toNatClampNeg x4)) else 0 - (t_letter (Int32.toNatClampNeg x4))) - (1 : Int32))))), (5, .int ((if 0 ≤ (t_letter (Int32.toNatClampNeg x4)) then (t_letter (Int32.toNatClampNeg x4)) else 0 - (t_letter (Int32.toNatClampNeg x4))) - (1 : Int32))), (0, .ref h_t), (1, .int x1), (3, .int x3), (4, .int x4)]) hx hb dX11_sumOf_136 hl (by decide) rfl (fun ls hl => ?_)
                obtain ⟨I138, m138, hI138, hB138⟩ := h
                have L138 : ∀ (x3 : Int32) (x4 : Int32) (x5 : Int32) (x6 : Int32) (x7 : Int32) (t_colour : Nat → Int32) (I138 : Int32 → Prop) (m138 : Int32 → Nat), (∀ (x8 : Int32), I138 x8 → pX11_sumOf_138 t_n t_modulus t_strands t_letters t_letter t_table t_twists R42 K x1 x3 x4 x5 x6 x7 t_colour x8 (fun x8' => I138 x8' ∧ m138 x8' < m138 x8)) → ∀ (n : Nat) (x8 : Int32) (H : Heap) (locs : List Loc) (ls : Array Slot), I138 x8 → m138 x8 < n → va_P G vwCl (w_X11_sumOf Y h_t B_t t_thrown t_n t_modulus t_rows t_strands t_letters t_listedMany t_listN t_listWhat t_colour t_letter t_table t_twists) H → va_D A (w_X11_sumOf Y h_t B_t t_thrown t_n t_modulus t_rows t_strands t_letters t_listedMany t_listN t_listWhat t_colour t_letter t_table t_twists) → va_S A s.heap H locs → lv_has ls 9 [(0, .ref h_t), (1, .int x1), (3, .int x3), (4, .int x4), (5, .int x5), (6, .int x6), (7, .int x7), (8, .int x8)] → W p l e R s m args below meth c H locs 0 0 Q (F0 m 138 ls []) := by
                  intro x3 x4 x5 x6 x7 t_colour I138 m138 hB138 n
                  induction n with
                  | zero => intro x8 H locs ls _ hm; exact absurd hm (Nat.not_lt_zero _)
                  | succ n ih =>
                    intro x8 H locs ls hI hm hP hD hS hl
                    obtain ⟨R138, h, rec138⟩ : ∃ R138 : Int32 → Prop, pX11_sumOf_138 t_n t_modulus t_strands t_letters t_letter t_table t_twists R42 K x1 x3 x4 x5 x6 x7 t_colour x8 R138 ∧ ∀ (x8 : Int32) (H : Heap) (locs : List Loc) (ls : Array Slot), R138 x8 → va_P G vwCl (w_X11_sumOf Y h_t B_t t_thrown t_n t_modulus t_rows t_strands t_letters t_listedMany t_listN t_listWhat t_colour t_letter t_table t_twists) H → va_D A (w_X11_sumOf Y h_t B_t t_thrown t_n t_modulus t_rows t_strands t_letters t_listedMany t_listN t_listWhat t_colour t_letter t_table t_twists) → va_S A s.heap H locs → lv_has ls 9 [(0, .ref h_t), (1, .int x1), (3, .int x3), (4, .int x4), (5, .int x5), (6, .int x6), (7, .int x7), (8, .int x8)] → W p l e R s m args below meth c H locs 0 0 Q (F0 m 138 ls []) := ⟨_, hB138 x8 hI, fun x8 H locs ls hh hP hD hS hl => ih x8 H locs ls hh.1 (Nat.lt_of_lt_of_le hh.2 (Nat.le_of_lt_succ hm)) hP hD hS hl⟩
                    refine lv_aload_n hx hb dX11_sumOf_138 rfl (lv_at hl 0 rfl) ?_
                    refine lv_iload hx hb dX11_sumOf_139 (lv_at hl 6 rfl) ?_
                    refine lv_iload hx hb dX11_sumOf_141 (lv_at hl 7 rfl) ?_
                    refine mc_iV ⟨hx, hb, hml, hown, hts⟩ hK hE hA hP hD hS (c_X11_by l G Y tF H.size h_t B_t t_thrown t_n t_modulus t_rows t_strands t_letters t_listedMany t_listN t_listWhat t_table x7 x8 h) (cwV 2 hts gX11_sumOf_X11_by rfl rfl rfl (by decide +kernel) ⟨Nat.le_trans (by decide) hRf, Nat.le_trans (by decide) hRl⟩) (fun u => (w_X11_sumOf Y h_t B_t t_thrown t_n t_modulus t_rows t_strands t_letters t_listedMany t_listN t_listWhat t_colour t_letter t_table t_twists)) [0, 3] [1, 2, 4] [3, 0, 1, 4, 2] rfl rfl rfl rfl (by decide) (fun _ => rfl) rfl 0 10 rfl rfl rfl rfl hl.1 rfl (Nat.le_of_ble_eq_true rfl) dX11_sumOf_143 (fun r143 u H locs h hP hD hS => ?_)
                    try dsimp only at h
                    have hP : va_P G vwCl (w_X11_sumOf Y h_t B_t t_thrown t_n t_modulus t_rows t_strands t_letters t_listedMany t_listN t_listWhat t_colour t_letter t_table t_twists) H := hP
                    have hD : va_D A (w_X11_sumOf Y h_t B_t t_thrown t_n t_modulus t_rows t_strands t_letters t_listedMany t_listN t_listWhat t_colour t_letter t_table t_twists) := hD
                    refine lv_iload hx hb dX11_sumOf_146 (lv_at hl 5 rfl) ?_
                    obtain ⟨ht, hf⟩ := h
                    refine lv_icmp_eq (tgt := 157) hx hb dX11_sumOf_148 (by decide) (fun c9 => ?_) (fun c9 => ?_)
                    · have h := ht c9
                      refine lv_iload_n hx hb dX11_sumOf_157 rfl (lv_at hl 2 rfl) ?_
                      refine lv_aload_n hx hb dX11_sumOf_158 rfl (lv_at hl 0 rfl) ?_
                      refine lv_iload hx hb dX11_sumOf_159 (lv_at hl 6 rfl) ?_
                      refine lv_iload hx hb dX11_sumOf_161 (lv_at hl 7 rfl) ?_
                      refine mc_iV ⟨hx, hb, hml, hown, hts⟩ hK hE hA hP hD hS (c_X11_twistOf l G Y tF H.size h_t B_t t_thrown t_n t_modulus t_rows t_strands t_letters t_listedMany t_listN t_listWhat t_twists x7 x8 h) (cwV 2 hts gX11_sumOf_X11_twistOf rfl rfl rfl (by decide +kernel) ⟨Nat.le_trans (by decide) hRf, Nat.le_trans (by decide) hRl⟩) (fun u => (w_X11_sumOf Y h_t B_t t_thrown t_n t_modulus t_rows t_strands t_letters t_listedMany t_listN t_listWhat t_colour t_letter t_table t_twists)) [0, 4] [1, 2, 3] [3, 0, 1, 2, 4] rfl rfl rfl rfl (by decide) (fun _ => rfl) rfl 0 10 rfl rfl rfl rfl hl.1 rfl (Nat.le_of_ble_eq_true rfl) dX11_sumOf_163 (fun r163 u H locs h hP hD hS => ?_)
                      try dsimp only at h
                      have hP : va_P G vwCl (w_X11_sumOf Y h_t B_t t_thrown t_n t_modulus t_rows t_strands t_letters t_listedMany t_listN t_listWhat t_colour t_letter t_table t_twists) H := hP
                      have hD : va_D A (w_X11_sumOf Y h_t B_t t_thrown t_n t_modulus t_rows t_strands t_letters t_listedMany t_listN t_listWhat t_colour t_letter t_table t_twists) := hD
                      refine lv_isub hx hb dX11_sumOf_166 ?_
                      refine lv_istore_n (lv' := [(3, .int (x3 - r163)), (0, .ref h_t), (1, .int x1), (4, .int x4), (5, .int x5), (6, .int x6), (7, .int x7), (8, .int x8)]) hx hb dX11_sumOf_167 rfl hl (by decide) rfl (fun ls hl => ?_)
                      refine lv_aload_n hx hb dX11_sumOf_168 rfl (lv_at hl 1 rfl) ?_
                      refine va_get (D := G) (ci := 10) (v := .ref (B_t 23)) (C := RX11) (T := TX11) (N := 29) hx hb hts inX11 hown hK hP 0 rfl rfl 23 (by decide) hf74 (fun _ h9 => h9) rfl dX11_sumOf_169 ?_
                      refine lv_iload hx hb dX11_sumOf_172 (lv_at hl 4 rfl) ?_
                      refine lv_iload hx hb dX11_sumOf_174 (lv_at hl 6 rfl) ?_
                      obtain ⟨hin, h⟩ := h
                      refine va_iast hx hb hK hP hD hS 1 0 rfl rfl hin dX11_sumOf_176 (fun H locs hP hD hS => ?_)
                      have hP : va_P G vwCl (w_X11_sumOf Y h_t B_t t_thrown t_n t_modulus t_rows t_strands t_letters t_listedMany t_listN t_listWhat (upd t_colour (Int32.toNatClampNeg x5) x7) t_letter t_table t_twists) H := hP
                      have hD : va_D A (w_X11_sumOf Y h_t B_t t_thrown t_n t_modulus t_rows t_strands t_letters t_listedMany t_listN t_listWhat (upd t_colour (Int32.toNatClampNeg x5) x7) t_letter t_table t_twists) := hD
                      refine lv_aload_n hx hb dX11_sumOf_177 rfl (lv_at hl 1 rfl) ?_
                      refine va_get (D := G) (ci := 10) (v := .ref (B_t 23)) (C := RX11) (T := TX11) (N := 29) hx hb hts inX11 hown hK hP 0 rfl rfl 23 (by decide) hf74 (fun _ h9 => h9) rfl dX11_sumOf_178 ?_
                      refine lv_iload hx hb dX11_sumOf_181 (lv_at hl 4 rfl) ?_
                      refine lv_iconst (v := 1) hx hb dX11_sumOf_183 (by decide) ?_
                      refine lv_iadd hx hb dX11_sumOf_184 ?_
                      refine lv_iload hx hb dX11_sumOf_185 (lv_at hl 7 rfl) ?_
                      obtain ⟨hin, h⟩ := h
                      refine va_iast hx hb hK hP hD hS 1 0 rfl rfl hin dX11_sumOf_187 (fun H locs hP hD hS => ?_)
                      have hP : va_P G vwCl (w_X11_sumOf Y h_t B_t t_thrown t_n t_modulus t_rows t_strands t_letters t_listedMany t_listN t_listWhat (upd (upd t_colour (Int32.toNatClampNeg x5) x7) (Int32.toNatClampNeg (x5 + (1 : Int32))) x8) t_letter t_table t_twists) H := hP
                      have hD : va_D A (w_X11_sumOf Y h_t B_t t_thrown t_n t_modulus t_rows t_strands t_letters t_listedMany t_listN t_listWhat (upd (upd t_colour (Int32.toNatClampNeg x5) x7) (Int32.toNatClampNeg (x5 + (1 : Int32))) x8) t_letter t_table t_twists) := hD
                      refine lv_iinc (v := (x4 + 1)) (lv' := [(4, .int (x4 + 1)), (3, .int (x3 - r163)), (0, .ref h_t), (1, .int x1), (5, .int x5), (6, .int x6), (7, .int x7), (8, .int x8)]) hx hb dX11_sumOf_188 hl (k := 3) rfl rfl (by decide) rfl (fun ls hl => ?_)
                      refine lv_goto (tgt := 42) hx hb dX11_sumOf_191 (by decide) ?_
                      exact rec42 (x3 - r163) (x4 + 1) (upd (upd t_colour (Int32.toNatClampNeg x5) x7) (Int32.toNatClampNeg (x5 + (1 : Int32))) x8) H locs ls h hP hD hS (lv_sub hl [2, 3, 1, 0] rfl)
                    · have h := hf c9
                      refine lv_iinc (v := (x8 + 1)) (lv' := [(8, .int (x8 + 1)), (0, .ref h_t), (1, .int x1), (3, .int x3), (4, .int x4), (5, .int x5), (6, .int x6), (7, .int x7)]) hx hb dX11_sumOf_151 hl (k := 7) rfl rfl (by decide) rfl (fun ls hl => ?_)
                      refine lv_goto (tgt := 138) hx hb dX11_sumOf_154 (by decide) ?_
                      exact rec138 (x8 + 1) H locs ls h hP hD hS (lv_sub hl [1, 2, 3, 4, 5, 6, 7, 0] rfl)
                exact L138 x3 x4 ((if 0 ≤ (t_letter (Int32.toNatClampNeg x4)) then (t_letter (Int32.toNatClampNeg x4)) else 0 - (t_letter (Int32.toNatClampNeg x4))) - (1 : Int32)) (t_colour (Int32.toNatClampNeg ((if 0 ≤ (t_letter (Int32.toNatClampNeg x4)) then (t_letter (Int32.toNatClampNeg x4)) else 0 - (t_letter (Int32.toNatClampNeg x4))) - (1 : Int32)))) (t_colour (Int32.toNatClampNeg (((if 0 ≤ (t_letter (Int32.toNatClampNeg x4)) then (t_letter (Int32.toNatClampNeg x4)) else 0 - (t_letter (Int32.toNatClampNeg x4))) - (1 : Int32)) + (1 : Int32)))) t_colour I138 m138 hB138 _ (0 : Int32) H locs ls hI138 (Nat.lt_succ_self _) hP hD hS (lv_sub hl [4, 5, 6, 7, 3, 2, 1, 0] rfl)
              · have h := hf c9
                refine lv_iload_n hx hb dX11_sumOf_95 rfl (lv_at hl 5 rfl) ?_
                refine lv_aload_n hx hb dX11_sumOf_96 rfl (lv_at hl 3 rfl) ?_
                refine lv_iload hx hb dX11_sumOf_97 (lv_at hl 1 rfl) ?_
                refine lv_iload hx hb dX11_sumOf_99 (lv_at hl 0 rfl) ?_
                refine mc_iV ⟨hx, hb, hml, hown, hts⟩ hK hE hA hP hD hS (c_X11_twistOf l G Y tF H.size h_t B_t t_thrown t_n t_modulus t_rows t_strands t_letters t_listedMany t_listN t_listWhat t_twists (t_colour (Int32.toNatClampNeg ((if 0 ≤ (t_letter (Int32.toNatClampNeg x4)) then (t_letter (Int32.toNatClampNeg x4)) else 0 - (t_letter (Int32.toNatClampNeg x4))) - (1 : Int32)))) (t_colour (Int32.toNatClampNeg (((if 0 ≤ (t_letter (Int32.toNatClampNeg x4)) then (t_letter (Int32.toNatClampNeg x4)) else 0 - (t_letter (Int32.toNatClampNeg x4))) - (1 : Int32)) + (1 : Int32)))) h) (cwV 2 hts gX11_sumOf_X11_twistOf rfl rfl rfl (by decide +kernel) ⟨Nat.le_trans (by decide) hRf, Nat.le_trans (by decide) hRl⟩) (fun u => (w_X11_sumOf Y h_t B_t t_thrown t_n t_modulus t_rows t_strands t_letters t_listedMany t_listN t_listWhat t_colour t_letter t_table t_twists)) [0, 4] [1, 2, 3] [3, 0, 1, 2, 4] rfl rfl rfl rfl (by decide) (fun _ => rfl) rfl 0 10 rfl rfl rfl rfl hl.1 rfl (Nat.le_of_ble_eq_true rfl) dX11_sumOf_101 (fun r101 u H locs h hP hD hS => ?_)
                try dsimp only at h
                have hP : va_P G vwCl (w_X11_sumOf Y h_t B_t t_thrown t_n t_modulus t_rows t_strands t_letters t_listedMany t_listN t_listWhat t_colour t_letter t_table t_twists) H := hP
                have hD : va_D A (w_X11_sumOf Y h_t B_t t_thrown t_n t_modulus t_rows t_strands t_letters t_listedMany t_listN t_listWhat t_colour t_letter t_table t_twists) := hD
                refine lv_iadd hx hb dX11_sumOf_104 ?_
                refine lv_istore_n (lv' := [(3, .int (x3 + r101)), (7, .int (t_colour (Int32.toNatClampNeg (((if 0 ≤ (t_letter (Int32.toNatClampNeg x4)) then (t_letter (Int32.toNatClampNeg x4)) else 0 - (t_letter (Int32.toNatClampNeg x4))) - (1 : Int32)) + (1 : Int32))))), (6, .int (t_colour (Int32.toNatClampNeg ((if 0 ≤ (t_letter (Int32.toNatClampNeg x4)) then (t_letter (Int32.toNatClampNeg x4)) else 0 - (t_letter (Int32.toNatClampNeg x4))) - (1 : Int32))))), (5, .int ((if 0 ≤ (t_letter (Int32.toNatClampNeg x4)) then (t_letter (Int32.toNatClampNeg x4)) else 0 - (t_letter (Int32.toNatClampNeg x4))) - (1 : Int32))), (0, .ref h_t), (1, .int x1), (4, .int x4)]) hx hb dX11_sumOf_105 rfl hl (by decide) rfl (fun ls hl => ?_)
                refine lv_aload_n hx hb dX11_sumOf_106 rfl (lv_at hl 4 rfl) ?_
                refine va_get (D := G) (ci := 10) (v := .ref (B_t 23)) (C := RX11) (T := TX11) (N := 29) hx hb hts inX11 hown hK hP 0 rfl rfl 23 (by decide) hf74 (fun _ h9 => h9) rfl dX11_sumOf_107 ?_
                refine lv_iload hx hb dX11_sumOf_110 (lv_at hl 3 rfl) ?_
                refine lv_aload_n hx hb dX11_sumOf_112 rfl (lv_at hl 4 rfl) ?_
                refine lv_iload hx hb dX11_sumOf_113 (lv_at hl 2 rfl) ?_
                refine lv_iload hx hb dX11_sumOf_115 (lv_at hl 1 rfl) ?_
                refine mc_iV ⟨hx, hb, hml, hown, hts⟩ hK hE hA hP hD hS (c_X11_by l G Y tF H.size h_t B_t t_thrown t_n t_modulus t_rows t_strands t_letters t_listedMany t_listN t_listWhat t_table (t_colour (Int32.toNatClampNeg ((if 0 ≤ (t_letter (Int32.toNatClampNeg x4)) then (t_letter (Int32.toNatClampNeg x4)) else 0 - (t_letter (Int32.toNatClampNeg x4))) - (1 : Int32)))) (t_colour (Int32.toNatClampNeg (((if 0 ≤ (t_letter (Int32.toNatClampNeg x4)) then (t_letter (Int32.toNatClampNeg x4)) else 0 - (t_letter (Int32.toNatClampNeg x4))) - (1 : Int32)) + (1 : Int32)))) h) (cwV 2 hts gX11_sumOf_X11_by rfl rfl rfl (by decide +kernel) ⟨Nat.le_trans (by decide) hRf, Nat.le_trans (by decide) hRl⟩) (fun u => (w_X11_sumOf Y h_t B_t t_thrown t_n t_modulus t_rows t_strands t_letters t_listedMany t_listN t_listWhat t_colour t_letter t_table t_twists)) [0, 3] [1, 2, 4] [3, 0, 1, 4, 2] rfl rfl rfl rfl (by decide) (fun _ => rfl) rfl 0 10 rfl rfl rfl rfl hl.1 rfl (Nat.le_of_ble_eq_true rfl) dX11_sumOf_117 (fun r117 u H locs h hP hD hS => ?_)
                try dsimp only at h
                have hP : va_P G vwCl (w_X11_sumOf Y h_t B_t t_thrown t_n t_modulus t_rows t_strands t_letters t_listedMany t_listN t_listWhat t_colour t_letter t_table t_twists) H := hP
                have hD : va_D A (w_X11_sumOf Y h_t B_t t_thrown t_n t_modulus t_rows t_strands t_letters t_listedMany t_listN t_listWhat t_colour t_letter t_table t_twists) := hD
                obtain ⟨hin, h⟩ := h
                refine va_iast hx hb hK hP hD hS 1 0 rfl rfl hin dX11_sumOf_120 (fun H locs hP hD hS => ?_)
                have hP : va_P G vwCl (w_X11_sumOf Y h_t B_t t_thrown t_n t_modulus t_rows t_strands t_letters t_listedMany t_listN t_listWhat (upd t_colour (Int32.toNatClampNeg ((if 0 ≤ (t_letter (Int32.toNatClampNeg x4)) then (t_letter (Int32.toNatClampNeg x4)) else 0 - (t_letter (Int32.toNatClampNeg x4))) - (1 : Int32))) r117) t_letter t_table t_twists) H := hP
                have hD : va_D A (w_X11_sumOf Y h_t B_t t_thrown t_n t_modulus t_rows t_strands t_letters t_listedMany t_listN t_listWhat (upd t_colour (Int32.toNatClampNeg ((if 0 ≤ (t_letter (Int32.toNatClampNeg x4)) then (t_letter (Int32.toNatClampNeg x4)) else 0 - (t_letter (Int32.toNatClampNeg x4))) - (1 : Int32))) r117) t_letter t_table t_twists) := hD
                refine lv_aload_n hx hb dX11_sumOf_121 rfl (lv_at hl 4 rfl) ?_
                refine va_get (D := G) (ci := 10) (v := .ref (B_t 23)) (C := RX11) (T := TX11) (N := 29) hx hb hts inX11 hown hK hP 0 rfl rfl 23 (by decide) hf74 (fun _ h9 => h9) rfl dX11_sumOf_122 ?_
                refine lv_iload hx hb dX11_sumOf_125 (lv_at hl 3 rfl) ?_
                refine lv_iconst (v := 1) hx hb dX11_sumOf_127 (by decide) ?_
                refine lv_iadd hx hb dX11_sumOf_128 ?_
                refine lv_iload hx hb dX11_sumOf_129 (lv_at hl 2 rfl) ?_
                obtain ⟨hin, h⟩ := h
                refine va_iast hx hb hK hP hD hS 1 0 rfl rfl hin dX11_sumOf_131 (fun H locs hP hD hS => ?_)
                have hP : va_P G vwCl (w_X11_sumOf Y h_t B_t t_thrown t_n t_modulus t_rows t_strands t_letters t_listedMany t_listN t_listWhat (upd (upd t_colour (Int32.toNatClampNeg ((if 0 ≤ (t_letter (Int32.toNatClampNeg x4)) then (t_letter (Int32.toNatClampNeg x4)) else 0 - (t_letter (Int32.toNatClampNeg x4))) - (1 : Int32))) r117) (Int32.toNatClampNeg (((if 0 ≤ (t_letter (Int32.toNatClampNeg x4)) then (t_letter (Int32.toNatClampNeg x4)) else 0 - (t_letter (Int32.toNatClampNeg x4))) - (1 : Int32)) + (1 : Int32))) (t_colour (Int32.toNatClampNeg ((if 0 ≤ (t_letter (Int32.toNatClampNeg x4)) then (t_letter (Int32.toNatClampNeg x4)) else 0 - (t_letter (Int32.toNatClampNeg x4))) - (1 : Int32))))) t_letter t_table t_twists) H := hP
                have hD : va_D A (w_X11_sumOf Y h_t B_t t_thrown t_n t_modulus t_rows t_strands t_letters t_listedMany t_listN t_listWhat (upd (upd t_colour (Int32.toNatClampNeg ((if 0 ≤ (t_letter (Int32.toNatClampNeg x4)) then (t_letter (Int32.toNatClampNeg x4)) else 0 - (t_letter (Int32.toNatClampNeg x4))) - (1 : Int32))) r117) (Int32.toNatClampNeg (((if 0 ≤ (t_letter (Int32.toNatClampNeg x4)) then (t_letter (Int32.toNatClampNeg x4)) else 0 - (t_letter (Int32.toNatClampNeg x4))) - (1 : Int32)) + (1 : Int32))) (t_colour (Int32.toNatClampNeg ((if 0 ≤ (t_letter (Int32.toNatClampNeg x4)) then (t_letter (Int32.toNatClampNeg x4)) else 0 - (t_letter (Int32.toNatClampNeg x4))) - (1 : Int32))))) t_letter t_table t_twists) := hD
                refine lv_goto (tgt := 188) hx hb dX11_sumOf_132 (by decide) ?_
                refine lv_iinc (v := (x4 + 1)) (lv' := [(4, .int (x4 + 1)), (3, .int (x3 + r101)), (7, .int (t_colour (Int32.toNatClampNeg (((if 0 ≤ (t_letter (Int32.toNatClampNeg x4)) then (t_letter (Int32.toNatClampNeg x4)) else 0 - (t_letter (Int32.toNatClampNeg x4))) - (1 : Int32)) + (1 : Int32))))), (6, .int (t_colour (Int32.toNatClampNeg ((if 0 ≤ (t_letter (Int32.toNatClampNeg x4)) then (t_letter (Int32.toNatClampNeg x4)) else 0 - (t_letter (Int32.toNatClampNeg x4))) - (1 : Int32))))), (5, .int ((if 0 ≤ (t_letter (Int32.toNatClampNeg x4)) then (t_letter (Int32.toNatClampNeg x4)) else 0 - (t_letter (Int32.toNatClampNeg x4))) - (1 : Int32))), (0, .ref h_t), (1, .int x1)]) hx hb dX11_sumOf_188 hl (k := 6) rfl rfl (by decide) rfl (fun ls hl => ?_)
                refine lv_goto (tgt := 42) hx hb dX11_sumOf_191 (by decide) ?_
                exact rec42 (x3 + r101) (x4 + 1) (upd (upd t_colour (Int32.toNatClampNeg ((if 0 ≤ (t_letter (Int32.toNatClampNeg x4)) then (t_letter (Int32.toNatClampNeg x4)) else 0 - (t_letter (Int32.toNatClampNeg x4))) - (1 : Int32))) r117) (Int32.toNatClampNeg (((if 0 ≤ (t_letter (Int32.toNatClampNeg x4)) then (t_letter (Int32.toNatClampNeg x4)) else 0 - (t_letter (Int32.toNatClampNeg x4))) - (1 : Int32)) + (1 : Int32))) (t_colour (Int32.toNatClampNeg ((if 0 ≤ (t_letter (Int32.toNatClampNeg x4)) then (t_letter (Int32.toNatClampNeg x4)) else 0 - (t_letter (Int32.toNatClampNeg x4))) - (1 : Int32))))) H locs ls h hP hD hS (lv_sub hl [5, 6, 1, 0] rfl)
        exact L42 x1 I42 m42 hB42 _ (0 : Int32) (0 : Int32) t_colour H locs ls hI42 (Nat.lt_succ_self _) hP hD hS (lv_sub hl [2, 3, 1, 0] rfl)
      · have h := hf c9
        refine lv_aload_n hx hb dX11_sumOf_12 rfl (lv_at hl 0 rfl) ?_
        refine va_get (D := G) (ci := 10) (v := .ref (B_t 23)) (C := RX11) (T := TX11) (N := 29) hx hb hts inX11 hown hK hP 0 rfl rfl 23 (by decide) hf74 (fun _ h9 => h9) rfl dX11_sumOf_13 ?_
        refine lv_iload_n hx hb dX11_sumOf_16 rfl (lv_at hl 3 rfl) ?_
        refine lv_iload_n hx hb dX11_sumOf_17 rfl (lv_at hl 2 rfl) ?_
        refine lv_aload_n hx hb dX11_sumOf_18 rfl (lv_at hl 0 rfl) ?_
        refine va_get (D := G) (ci := 10) (v := .int t_n) (C := RX11) (T := TX11) (N := 29) hx hb hts inX11 hown hK hP 0 rfl rfl 1 (by decide) hf9 (fun _ h9 => h9) rfl dX11_sumOf_19 ?_
        obtain ⟨hne, h⟩ := h
        refine lv_irem hx hb dX11_sumOf_22 hne ?_
        obtain ⟨hin, h⟩ := h
        refine va_iast hx hb hK hP hD hS 1 0 rfl rfl hin dX11_sumOf_23 (fun H locs hP hD hS => ?_)
        have hP : va_P G vwCl (w_X11_sumOf Y h_t B_t t_thrown t_n t_modulus t_rows t_strands t_letters t_listedMany t_listN t_listWhat (upd t_colour (Int32.toNatClampNeg x3) (x2 - x2 / t_n * t_n)) t_letter t_table t_twists) H := hP
        have hD : va_D A (w_X11_sumOf Y h_t B_t t_thrown t_n t_modulus t_rows t_strands t_letters t_listedMany t_listN t_listWhat (upd t_colour (Int32.toNatClampNeg x3) (x2 - x2 / t_n * t_n)) t_letter t_table t_twists) := hD
        refine lv_iload_n hx hb dX11_sumOf_24 rfl (lv_at hl 2 rfl) ?_
        refine lv_aload_n hx hb dX11_sumOf_25 rfl (lv_at hl 0 rfl) ?_
        refine va_get (D := G) (ci := 10) (v := .int t_n) (C := RX11) (T := TX11) (N := 29) hx hb hts inX11 hown hK hP 0 rfl rfl 1 (by decide) hf9 (fun _ h9 => h9) rfl dX11_sumOf_26 ?_
        obtain ⟨hne, h⟩ := h
        refine lv_idiv hx hb dX11_sumOf_29 hne ?_
        refine lv_istore_n (lv' := [(2, .int (x2 / t_n)), (0, .ref h_t), (1, .int x1), (3, .int x3)]) hx hb dX11_sumOf_30 rfl hl (by decide) rfl (fun ls hl => ?_)
        refine lv_iinc (v := (x3 + 1)) (lv' := [(3, .int (x3 + 1)), (2, .int (x2 / t_n)), (0, .ref h_t), (1, .int x1)]) hx hb dX11_sumOf_31 hl (k := 3) rfl rfl (by decide) rfl (fun ls hl => ?_)
        refine lv_goto (tgt := 4) hx hb dX11_sumOf_34 (by decide) ?_
        exact rec4 (x2 / t_n) (x3 + 1) (upd t_colour (Int32.toNatClampNeg x3) (x2 - x2 / t_n * t_n)) H locs ls h hP hD hS (lv_sub hl [2, 3, 1, 0] rfl)
  exact L4 x1 I4 m4 hB4 _ x1 (0 : Int32) t_colour H locs ls hI4 (Nat.lt_succ_self _) hP hD hS (lv_sub hl [2, 3, 1, 0] rfl)

set_option maxHeartbeats 20000000 in
set_option maxRecDepth 100000 in
theorem c_X11_sumOf (l : Launch) (G : va_G) (Y : Nat → ClassId) (tF sz : Nat) (h_t : Nat) (B_t : Nat → Nat) (t_thrown : Int32) (t_n : Int32) (t_modulus : Int32) (t_rows : Int32) (t_strands : Int32) (t_letters : Int32) (t_listedMany : Int32) (t_listN : Int32) (t_listWhat : Int32) (t_colour : Nat → Int32) (t_letter : Nat → Int32) (t_table : Nat → Int32) (t_twists : Nat → Int32) (x1 : Int32) {K : Int32 → (Nat → Int32) → Prop} (h : pX11_sumOf t_n t_modulus t_strands t_letters t_colour t_letter t_table t_twists x1 K) : Met l yX11_sumOf wsX11_sumOf ({ frames := 1, cells := 0, slots := 0, locals := 24 }) (PcM G Y tF sz (w_X11_sumOf Y h_t B_t t_thrown t_n t_modulus t_rows t_strands t_letters t_listedMany t_listN t_listWhat t_colour t_letter t_table t_twists) [.ref h_t, .int x1]) (va_Qi (fun (r : Int32) (u : (Nat → Int32)) => K r u) (fun u t => BM G Y (va_A (w_X11_sumOf Y h_t B_t t_thrown t_n t_modulus t_rows t_strands t_letters t_listedMany t_listN t_listWhat t_colour t_letter t_table t_twists) sz) (w_X11_sumOf Y h_t B_t t_thrown t_n t_modulus t_rows t_strands t_letters t_listedMany t_listN t_listWhat u t_letter t_table t_twists) t) (va_A (w_X11_sumOf Y h_t B_t t_thrown t_n t_modulus t_rows t_strands t_letters t_listedMany t_listN t_listWhat t_colour t_letter t_table t_twists) sz)) 0 0 (va_A (w_X11_sumOf Y h_t B_t t_thrown t_n t_modulus t_rows t_strands t_letters t_listedMany t_listN t_listWhat t_colour t_letter t_table t_twists) sz) := by
  refine Met.ofW (cc := cX11_sumOf) (maxL := 9) (ret := (some .int)) (by decide +kernel) rfl ?_
  intro p e s m args below meth c s₁ B hml hv
  obtain ⟨rfl, hsz, hP, hK, hD0, hE⟩ := hv
  have hts := atoms_spec (ws := wsX11_sumOf) B.pre
  have hown : s.vm.findClass RX11 = some m.cls := findClass_of_methodNamed B.named
  have hlocks := B.notSynchronized
  subst hsz
  have hD := hD0.self (sz := s.heap.size)
  exact wk_X11_sumOf h_t B_t t_thrown t_n t_modulus t_rows t_strands t_letters t_listedMany t_listN t_listWhat t_colour t_letter t_table t_twists x1 B.exec B.bytes hml hown hts hK hE (fun q h => Or.inr h) (Nat.le_refl _) (Nat.le_refl _) (fun r t_colour H locs ls pc hP hD hS hk hd => W.iret (v := r) B.exec B.bytes B.returns (fun t ht hW => ⟨⟨r, t_colour, rfl, hk, by rw [ht]; exact hP, va_K.moved hW.alike hK, hD⟩, hS.F ht⟩) hS.2.2 hd) hP hD h

abbrev w_X11_colourings (Y : Nat → ClassId) (h_t : Nat) (B_t : Nat → Nat) (t_thrown : Int32) (t_n : Int32) (t_modulus : Int32) (t_rows : Int32) (t_strands : Int32) (t_letters : Int32) (t_listedMany : Int32) (t_listN : Int32) (t_listWhat : Int32) (t_colour : Nat → Int32) (t_letter : Nat → Int32) (t_table : Nat → Int32) (t_twists : Nat → Int32) : va_W := [(h_t, .inr (10, [.int t_thrown, .int t_n, .ref (B_t 2), .int t_modulus, .ref (B_t 4), .ref (B_t 5), .ref (B_t 6), .ref (B_t 7), .ref (B_t 8), .ref (B_t 9), .ref (B_t 10), .int t_rows, .ref (B_t 12), .ref (B_t 13), .ref (B_t 14), .ref (B_t 15), .ref (B_t 16), .ref (B_t 17), .ref (B_t 18), .ref (B_t 19), .int t_strands, .int t_letters, .ref (B_t 22), .ref (B_t 23), .ref (B_t 24), .ref (B_t 25), .int t_listedMany, .int t_listN, .int t_listWhat])), ((B_t 23), .inl (Y 0, 4, .inl t_colour)), ((B_t 22), .inl (Y 0, 24, .inl t_letter)), ((B_t 2), .inl (Y 0, 64, .inl t_table)), ((B_t 4), .inl (Y 0, 64, .inl t_twists))]

set_option maxHeartbeats 20000000 in
set_option maxRecDepth 100000 in
theorem wk_X11_colourings {p : Program} {l : Launch} {e : Env} {R : Room} {s : State} {m : MethodId} {args : Array Value} {below : List Frame} {meth : Method} {c : Code} {Q : State → Prop} {G : va_G} {Y : Nat → ClassId} {tF : Nat} {A : Nat → Prop} (h_t : Nat) (B_t : Nat → Nat) (t_thrown : Int32) (t_n : Int32) (t_modulus : Int32) (t_rows : Int32) (t_strands : Int32) (t_letters : Int32) (t_listedMany : Int32) (t_listN : Int32) (t_listWhat : Int32) (t_colour : Nat → Int32) (t_letter : Nat → Int32) (t_table : Nat → Int32) (t_twists : Nat → Int32) (x1 : Int32) {K : Int32 → (Nat → Int32) → Prop} (hx : p.tables.exec = Jvm.exec) (hb : c.code = cX11_colourings) (hml : c.maxLocals = 6) (hown : s.vm.findClass RX11 = some m.cls) (hts : ∀ w ∈ wsX11_colourings, w.before args s = true) (hK : va_K G vwCl (tyL Y) s) (hE : Ev A tF s) (hA : ∀ q, s.heap.size ≤ q → A q) (hRf : 2 ≤ R.frames) (hRl : 52 ≤ R.locals) (hret : ∀ (r : Int32) (t_colour : Nat → Int32) (H : Heap) (locs : List Loc) (ls : Array Slot) (pc : Nat), va_P G vwCl (w_X11_colourings Y h_t B_t t_thrown t_n t_modulus t_rows t_strands t_letters t_listedMany t_listN t_listWhat t_colour t_letter t_table t_twists) H → va_D A (w_X11_colourings Y h_t B_t t_thrown t_n t_modulus t_rows t_strands t_letters t_listedMany t_listN t_listWhat t_colour t_letter t_table t_twists) → va_S A s.heap H locs → K r t_colour → decode cX11_colourings pc = .ok (.ireturn, 1) → W p l e R s m args below meth c H locs 0 0 Q (F0 m pc ls [.int r])) (hP : va_P G vwCl (w_X11_colourings Y h_t B_t t_thrown t_n t_modulus t_rows t_strands t_letters t_listedMany t_listN t_listWhat t_colour t_letter t_table t_twists) s.heap) (hD : va_D A (w_X11_colourings Y h_t B_t t_thrown t_n t_modulus t_rows t_strands t_letters t_listedMany t_listN t_listWhat t_colour t_letter t_table t_twists)) (h : pX11_colourings t_n t_modulus t_strands t_letters t_colour t_letter t_table t_twists x1 K) : W p l e R s m args below meth c s.heap [] 0 0 Q (entryFrame m ([.ref h_t, .int x1] : List Value).toArray 6) := by
  have inX11 : ∀ w ∈ u_ws RX11 TX11 29, w ∈ wsX11_colourings := by decide +kernel
  have hf68 := hts (.fieldLink RX11 68 "RackBenchModel" "strands" "I") (by decide +kernel)
  have hf9 := hts (.fieldLink RX11 9 "RackBenchModel" "n" "I") (by decide +kernel)
  have hl := lv_entry ([.ref h_t, .int x1]) (n := 6) (Nat.le_of_ble_eq_true rfl)
  rw [lg_entry_eq]
  generalize (lg_sl ([.ref h_t, .int x1]) ++ List.replicate (6 - (lg_sl ([.ref h_t, .int x1])).length) Slot.unset).toArray = ls at hl ⊢
  have hl : lv_has ls 6 [(0, .ref h_t), (1, .int x1)] := hl
  generalize hH0 : s.heap = H at hP ⊢
  have hS : va_S A s.heap H [] := by rw [← hH0]; exact va_S.rf
  clear hH0
  generalize ([] : List Loc) = locs at hS ⊢
  refine lv_iconst (v := 1) hx hb dX11_colourings_0 (by decide) ?_
  refine lv_istore_n (lv' := [(2, .int (1 : Int32)), (0, .ref h_t), (1, .int x1)]) hx hb dX11_colourings_1 rfl hl (by decide) rfl (fun ls hl => ?_)
  refine lv_iconst (v := 0) hx hb dX11_colourings_2 (by decide) ?_
  refine lv_istore_n (lv' := [(3, .int (0 : Int32)), (2, .int (1 : Int32)), (0, .ref h_t), (1, .int x1)]) hx hb dX11_colourings_3 rfl hl (by decide) rfl (fun ls hl => ?_)
  obtain ⟨I4, m4, hI4, hB4⟩ := h
  have L4 : ∀ (x1 : Int32) (t_colour : Nat → Int32) (I4 : Int32 → Int32 → Prop) (m4 : Int32 → Int32 → Nat), (∀ (x2 : Int32) (x3 : Int32), I4 x2 x3 → pX11_colourings_4 t_n t_modulus t_strands t_letters t_letter t_table t_twists K x1 t_colour x2 x3 (fun x2' x3' => I4 x2' x3' ∧ m4 x2' x3' < m4 x2 x3)) → ∀ (n : Nat) (x2 : Int32) (x3 : Int32) (H : Heap) (locs : List Loc) (ls : Array Slot), I4 x2 x3 → m4 x2 x3 < n → va_P G vwCl (w_X11_colourings Y h_t B_t t_thrown t_n t_modulus t_rows t_strands t_letters t_listedMany t_listN t_listWhat t_colour t_letter t_table t_twists) H → va_D A (w_X11_colourings Y h_t B_t t_thrown t_n t_modulus t_rows t_strands t_letters t_listedMany t_listN t_listWhat t_colour t_letter t_table t_twists) → va_S A s.heap H locs → lv_has ls 6 [(0, .ref h_t), (1, .int x1), (2, .int x2), (3, .int x3)] → W p l e R s m args below meth c H locs 0 0 Q (F0 m 4 ls []) := by
    intro x1 t_colour I4 m4 hB4 n
    induction n with
    | zero => intro x2 x3 H locs ls _ hm; exact absurd hm (Nat.not_lt_zero _)
    | succ n ih =>
      intro x2 x3 H locs ls hI hm hP hD hS hl
      obtain ⟨R4, h, rec4⟩ : ∃ R4 : Int32 → Int32 → Prop, pX11_colourings_4 t_n t_modulus t_strands t_letters t_letter t_table t_twists K x1 t_colour x2 x3 R4 ∧ ∀ (x2 : Int32) (x3 : Int32) (H : Heap) (locs : List Loc) (ls : Array Slot), R4 x2 x3 → va_P G vwCl (w_X11_colourings Y h_t B_t t_thrown t_n t_modulus t_rows t_strands t_letters t_listedMany t_listN t_listWhat t_colour t_letter t_table t_twists) H → va_D A (w_X11_colourings Y h_t B_t t_thrown t_n t_modulus t_rows t_strands t_letters t_listedMany t_listN t_listWhat t_colour t_letter t_table t_twists) → va_S A s.heap H locs → lv_has ls 6 [(0, .ref h_t), (1, .int x1), (2, .int x2), (3, .int x3)] → W p l e R s m args below meth c H locs 0 0 Q (F0 m 4 ls []) := ⟨_, hB4 x2 x3 hI, fun x2 x3 H locs ls hh hP hD hS hl => ih x2 x3 H locs ls hh.1 (Nat.lt_of_lt_of_le hh.2 (Nat.le_of_lt_succ hm)) hP hD hS hl⟩
      refine lv_iload_n hx hb dX11_colourings_4 rfl (lv_at hl 3 rfl) ?_
      refine lv_aload_n hx hb dX11_colourings_5 rfl (lv_at hl 0 rfl) ?_
      refine va_get (D := G) (ci := 10) (v := .int t_strands) (C := RX11) (T := TX11) (N := 29) hx hb hts inX11 hown hK hP 0 rfl rfl 20 (by decide) hf68 (fun _ h9 => h9) rfl dX11_colourings_6 ?_
      obtain ⟨ht, hf⟩ := h
      refine lv_icmp_ge (tgt := 25) hx hb dX11_colourings_9 (by decide) (fun c9 => ?_) (fun c9 => ?_)
      · have h := ht c9
        refine lv_iconst (v := 0) hx hb dX11_colourings_25 (by decide) ?_
        refine lv_istore_n (lv' := [(3, .int (0 : Int32)), (0, .ref h_t), (1, .int x1), (2, .int x2)]) hx hb dX11_colourings_26 rfl hl (by decide) rfl (fun ls hl => ?_)
        refine lv_iconst (v := 0) hx hb dX11_colourings_27 (by decide) ?_
        refine lv_istore (lv' := [(4, .int (0 : Int32)), (3, .int (0 : Int32)), (0, .ref h_t), (1, .int x1), (2, .int x2)]) hx hb dX11_colourings_28 hl (by decide) rfl (fun ls hl => ?_)
        obtain ⟨I30, m30, hI30, hB30⟩ := h
        have L30 : ∀ (x1 : Int32) (x2 : Int32) (I30 : Int32 → Int32 → (Nat → Int32) → Prop) (m30 : Int32 → Int32 → (Nat → Int32) → Nat), (∀ (x3 : Int32) (x4 : Int32) (t_colour : Nat → Int32), I30 x3 x4 t_colour → pX11_colourings_30 t_n t_modulus t_strands t_letters t_letter t_table t_twists R4 K x1 x2 x3 x4 t_colour (fun x3' x4' t_colour' => I30 x3' x4' t_colour' ∧ m30 x3' x4' t_colour' < m30 x3 x4 t_colour)) → ∀ (n : Nat) (x3 : Int32) (x4 : Int32) (t_colour : Nat → Int32) (H : Heap) (locs : List Loc) (ls : Array Slot), I30 x3 x4 t_colour → m30 x3 x4 t_colour < n → va_P G vwCl (w_X11_colourings Y h_t B_t t_thrown t_n t_modulus t_rows t_strands t_letters t_listedMany t_listN t_listWhat t_colour t_letter t_table t_twists) H → va_D A (w_X11_colourings Y h_t B_t t_thrown t_n t_modulus t_rows t_strands t_letters t_listedMany t_listN t_listWhat t_colour t_letter t_table t_twists) → va_S A s.heap H locs → lv_has ls 6 [(0, .ref h_t), (1, .int x1), (2, .int x2), (3, .int x3), (4, .int x4)] → W p l e R s m args below meth c H locs 0 0 Q (F0 m 30 ls []) := by
          intro x1 x2 I30 m30 hB30 n
          induction n with
          | zero => intro x3 x4 t_colour H locs ls _ hm; exact absurd hm (Nat.not_lt_zero _)
          | succ n ih =>
            intro x3 x4 t_colour H locs ls hI hm hP hD hS hl
            obtain ⟨R30, h, rec30⟩ : ∃ R30 : Int32 → Int32 → (Nat → Int32) → Prop, pX11_colourings_30 t_n t_modulus t_strands t_letters t_letter t_table t_twists R4 K x1 x2 x3 x4 t_colour R30 ∧ ∀ (x3 : Int32) (x4 : Int32) (t_colour : Nat → Int32) (H : Heap) (locs : List Loc) (ls : Array Slot), R30 x3 x4 t_colour → va_P G vwCl (w_X11_colourings Y h_t B_t t_thrown t_n t_modulus t_rows t_strands t_letters t_listedMany t_listN t_listWhat t_colour t_letter t_table t_twists) H → va_D A (w_X11_colourings Y h_t B_t t_thrown t_n t_modulus t_rows t_strands t_letters t_listedMany t_listN t_listWhat t_colour t_letter t_table t_twists) → va_S A s.heap H locs → lv_has ls 6 [(0, .ref h_t), (1, .int x1), (2, .int x2), (3, .int x3), (4, .int x4)] → W p l e R s m args below meth c H locs 0 0 Q (F0 m 30 ls []) := ⟨_, hB30 x3 x4 t_colour hI, fun x3 x4 t_colour H locs ls hh hP hD hS hl => ih x3 x4 t_colour H locs ls hh.1 (Nat.lt_of_lt_of_le hh.2 (Nat.le_of_lt_succ hm)) hP hD hS hl⟩
            have J64 : ∀ (x4 : Int32) (s0 : Int32) (t_colour : Nat → Int32) (H : Heap) (locs : List Loc) (ls : Array Slot), pX11_colourings_64 t_n t_modulus t_strands t_letters t_letter t_table t_twists R30 K x1 x2 x4 s0 t_colour → va_P G vwCl (w_X11_colourings Y h_t B_t t_thrown t_n t_modulus t_rows t_strands t_letters t_listedMany t_listN t_listWhat t_colour t_letter t_table t_twists) H → va_D A (w_X11_colourings Y h_t B_t t_thrown t_n t_modulus t_rows t_strands t_letters t_listedMany t_listN t_listWhat t_colour t_letter t_table t_twists) → va_S A s.heap H locs → lv_has ls 6 [(0, .ref h_t), (1, .int x1), (2, .int x2), (4, .int x4)] → W p l e R s m args below meth c H locs 0 0 Q (F0 m 64 ls [.int s0]) := by
              intro x4 s0 t_colour H locs ls h hP hD hS hl
              refine lv_iconst (v := 0) hx hb dX11_colourings_64 (by decide) ?_
              refine lv_iadd hx hb dX11_colourings_65 ?_
              refine lv_istore_n (lv' := [(3, .int (s0 + (0 : Int32))), (0, .ref h_t), (1, .int x1), (2, .int x2), (4, .int x4)]) hx hb dX11_colourings_66 rfl hl (by decide) rfl (fun ls hl => ?_)
              refine lv_iinc (v := (x4 + 1)) (lv' := [(4, .int (x4 + 1)), (3, .int (s0 + (0 : Int32))), (0, .ref h_t), (1, .int x1), (2, .int x2)]) hx hb dX11_colourings_67 hl (k := 4) rfl rfl (by decide) rfl (fun ls hl => ?_)
              refine lv_goto (tgt := 30) hx hb dX11_colourings_70 (by decide) ?_
              exact rec30 (s0 + (0 : Int32)) (x4 + 1) t_colour H locs ls h hP hD hS (lv_sub hl [2, 3, 4, 1, 0] rfl)
            have J60 : ∀ (x4 : Int32) (s0 : Int32) (t_colour : Nat → Int32) (H : Heap) (locs : List Loc) (ls : Array Slot), pX11_colourings_60 t_n t_modulus t_strands t_letters t_letter t_table t_twists R30 K x1 x2 x4 s0 t_colour → va_P G vwCl (w_X11_colourings Y h_t B_t t_thrown t_n t_modulus t_rows t_strands t_letters t_listedMany t_listN t_listWhat t_colour t_letter t_table t_twists) H → va_D A (w_X11_colourings Y h_t B_t t_thrown t_n t_modulus t_rows t_strands t_letters t_listedMany t_listN t_listWhat t_colour t_letter t_table t_twists) → va_S A s.heap H locs → lv_has ls 6 [(0, .ref h_t), (1, .int x1), (2, .int x2), (4, .int x4)] → W p l e R s m args below meth c H locs 0 0 Q (F0 m 60 ls [.int s0]) := by
              intro x4 s0 t_colour H locs ls h hP hD hS hl
              refine lv_iconst (v := 1) hx hb dX11_colourings_60 (by decide) ?_
              refine lv_goto (tgt := 65) hx hb dX11_colourings_61 (by decide) ?_
              refine lv_iadd hx hb dX11_colourings_65 ?_
              refine lv_istore_n (lv' := [(3, .int (s0 + (1 : Int32))), (0, .ref h_t), (1, .int x1), (2, .int x2), (4, .int x4)]) hx hb dX11_colourings_66 rfl hl (by decide) rfl (fun ls hl => ?_)
              refine lv_iinc (v := (x4 + 1)) (lv' := [(4, .int (x4 + 1)), (3, .int (s0 + (1 : Int32))), (0, .ref h_t), (1, .int x1), (2, .int x2)]) hx hb dX11_colourings_67 hl (k := 4) rfl rfl (by decide) rfl (fun ls hl => ?_)
              refine lv_goto (tgt := 30) hx hb dX11_colourings_70 (by decide) ?_
              exact rec30 (s0 + (1 : Int32)) (x4 + 1) t_colour H locs ls h hP hD hS (lv_sub hl [2, 3, 4, 1, 0] rfl)
            refine lv_iload hx hb dX11_colourings_30 (lv_at hl 4 rfl) ?_
            refine lv_iload_n hx hb dX11_colourings_32 rfl (lv_at hl 2 rfl) ?_
            obtain ⟨ht, hf⟩ := h
            refine lv_icmp_ge (tgt := 73) hx hb dX11_colourings_33 (by decide) (fun c9 => ?_) (fun c9 => ?_)
            · have h := ht c9
              refine lv_iload_n hx hb dX11_colourings_73 rfl (lv_at hl 3 rfl) ?_
              exact hret x3 t_colour H locs ls _ hP hD hS h dX11_colourings_74
            · have h := hf c9
              refine lv_aload_n hx hb dX11_colourings_36 rfl (lv_at hl 0 rfl) ?_
              refine lv_iload hx hb dX11_colourings_37 (lv_at hl 4 rfl) ?_
              refine mc_iV ⟨hx, hb, hml, hown, hts⟩ hK hE hA hP hD hS (c_X11_sumOf l G Y tF H.size h_t B_t t_thrown t_n t_modulus t_rows t_strands t_letters t_listedMany t_listN t_listWhat t_colour t_letter t_table t_twists x4 h) (cwV 1 hts gX11_colourings_X11_sumOf rfl rfl rfl (by decide +kernel) ⟨Nat.le_trans (by decide) hRf, Nat.le_trans (by decide) hRl⟩) (fun u => (w_X11_colourings Y h_t B_t t_thrown t_n t_modulus t_rows t_strands t_letters t_listedMany t_listN t_listWhat u t_letter t_table t_twists)) [0, 1, 2, 3, 4] [] [0, 1, 2, 3, 4] rfl rfl rfl rfl (by decide) (fun _ => rfl) rfl 0 10 rfl rfl rfl rfl hl.1 rfl (Nat.le_of_ble_eq_true rfl) dX11_colourings_39 (fun r39 u H locs h hP hD hS => ?_)
              obtain ⟨t_colour_39, rfl⟩ : ∃ z, z = u := ⟨_, rfl⟩
              try dsimp only at h
              have hP : va_P G vwCl (w_X11_colourings Y h_t B_t t_thrown t_n t_modulus t_rows t_strands t_letters t_listedMany t_listN t_listWhat t_colour_39 t_letter t_table t_twists) H := hP
              have hD : va_D A (w_X11_colourings Y h_t B_t t_thrown t_n t_modulus t_rows t_strands t_letters t_listedMany t_listN t_listWhat t_colour_39 t_letter t_table t_twists) := hD
              refine lv_istore (lv' := [(5, .int r39), (0, .ref h_t), (1, .int x1), (2, .int x2), (3, .int x3), (4, .int x4)]) hx hb dX11_colourings_42 hl (by decide) rfl (fun ls hl => ?_)
              refine lv_iload_n hx hb dX11_colourings_44 rfl (lv_at hl 4 rfl) ?_
              refine lv_iload hx hb dX11_colourings_45 (lv_at hl 0 rfl) ?_
              obtain ⟨ht, hf⟩ := h
              refine lv_if_lt (tgt := 64) hx hb dX11_colourings_47 (by decide) (fun c9 => ?_) (fun c9 => ?_)
              · have h := ht c9
                exact J64 x4 x3 t_colour_39 H locs ls h hP hD hS (lv_sub hl [1, 2, 3, 5] rfl)
              · have h := hf c9
                refine lv_iload_n hx hb dX11_colourings_50 rfl (lv_at hl 2 rfl) ?_
                obtain ⟨ht, hf⟩ := h
                refine lv_if_lt (tgt := 60) hx hb dX11_colourings_51 (by decide) (fun c9 => ?_) (fun c9 => ?_)
                · have h := ht c9
                  exact J60 x4 x3 t_colour_39 H locs ls h hP hD hS (lv_sub hl [1, 2, 3, 5] rfl)
                · have h := hf c9
                  refine lv_iload hx hb dX11_colourings_54 (lv_at hl 0 rfl) ?_
                  refine lv_iload_n hx hb dX11_colourings_56 rfl (lv_at hl 2 rfl) ?_
                  obtain ⟨ht, hf⟩ := h
                  refine lv_icmp_ne (tgt := 64) hx hb dX11_colourings_57 (by decide) (fun c9 => ?_) (fun c9 => ?_)
                  · have h := ht c9
                    exact J64 x4 x3 t_colour_39 H locs ls h hP hD hS (lv_sub hl [1, 2, 3, 5] rfl)
                  · have h := hf c9
                    exact J60 x4 x3 t_colour_39 H locs ls h hP hD hS (lv_sub hl [1, 2, 3, 5] rfl)
        exact L30 x1 x2 I30 m30 hB30 _ (0 : Int32) (0 : Int32) t_colour H locs ls hI30 (Nat.lt_succ_self _) hP hD hS (lv_sub hl [2, 3, 4, 1, 0] rfl)
      · have h := hf c9
        refine lv_iload_n hx hb dX11_colourings_12 rfl (lv_at hl 2 rfl) ?_
        refine lv_aload_n hx hb dX11_colourings_13 rfl (lv_at hl 0 rfl) ?_
        refine va_get (D := G) (ci := 10) (v := .int t_n) (C := RX11) (T := TX11) (N := 29) hx hb hts inX11 hown hK hP 0 rfl rfl 1 (by decide) hf9 (fun _ h9 => h9) rfl dX11_colourings_14 ?_
        refine lv_imul hx hb dX11_colourings_17 ?_
        refine lv_istore_n (lv' := [(2, .int (x2 * t_n)), (0, .ref h_t), (1, .int x1), (3, .int x3)]) hx hb dX11_colourings_18 rfl hl (by decide) rfl (fun ls hl => ?_)
        refine lv_iinc (v := (x3 + 1)) (lv' := [(3, .int (x3 + 1)), (2, .int (x2 * t_n)), (0, .ref h_t), (1, .int x1)]) hx hb dX11_colourings_19 hl (k := 3) rfl rfl (by decide) rfl (fun ls hl => ?_)
        refine lv_goto (tgt := 4) hx hb dX11_colourings_22 (by decide) ?_
        exact rec4 (x2 * t_n) (x3 + 1) H locs ls h hP hD hS (lv_sub hl [2, 3, 1, 0] rfl)
  exact L4 x1 t_colour I4 m4 hB4 _ (1 : Int32) (0 : Int32) H locs ls hI4 (Nat.lt_succ_self _) hP hD hS (lv_sub hl [2, 3, 1, 0] rfl)

set_option maxHeartbeats 20000000 in
set_option maxRecDepth 100000 in
theorem c_X11_colourings (l : Launch) (G : va_G) (Y : Nat → ClassId) (tF sz : Nat) (h_t : Nat) (B_t : Nat → Nat) (t_thrown : Int32) (t_n : Int32) (t_modulus : Int32) (t_rows : Int32) (t_strands : Int32) (t_letters : Int32) (t_listedMany : Int32) (t_listN : Int32) (t_listWhat : Int32) (t_colour : Nat → Int32) (t_letter : Nat → Int32) (t_table : Nat → Int32) (t_twists : Nat → Int32) (x1 : Int32) {K : Int32 → (Nat → Int32) → Prop} (h : pX11_colourings t_n t_modulus t_strands t_letters t_colour t_letter t_table t_twists x1 K) : Met l yX11_colourings wsX11_colourings ({ frames := 2, cells := 0, slots := 0, locals := 52 }) (PcM G Y tF sz (w_X11_colourings Y h_t B_t t_thrown t_n t_modulus t_rows t_strands t_letters t_listedMany t_listN t_listWhat t_colour t_letter t_table t_twists) [.ref h_t, .int x1]) (va_Qi (fun (r : Int32) (u : (Nat → Int32)) => K r u) (fun u t => BM G Y (va_A (w_X11_colourings Y h_t B_t t_thrown t_n t_modulus t_rows t_strands t_letters t_listedMany t_listN t_listWhat t_colour t_letter t_table t_twists) sz) (w_X11_colourings Y h_t B_t t_thrown t_n t_modulus t_rows t_strands t_letters t_listedMany t_listN t_listWhat u t_letter t_table t_twists) t) (va_A (w_X11_colourings Y h_t B_t t_thrown t_n t_modulus t_rows t_strands t_letters t_listedMany t_listN t_listWhat t_colour t_letter t_table t_twists) sz)) 0 0 (va_A (w_X11_colourings Y h_t B_t t_thrown t_n t_modulus t_rows t_strands t_letters t_listedMany t_listN t_listWhat t_colour t_letter t_table t_twists) sz) := by
  refine Met.ofW (cc := cX11_colourings) (maxL := 6) (ret := (some .int)) (by decide +kernel) rfl ?_
  intro p e s m args below meth c s₁ B hml hv
  obtain ⟨rfl, hsz, hP, hK, hD0, hE⟩ := hv
  have hts := atoms_spec (ws := wsX11_colourings) B.pre
  have hown : s.vm.findClass RX11 = some m.cls := findClass_of_methodNamed B.named
  have hlocks := B.notSynchronized
  subst hsz
  have hD := hD0.self (sz := s.heap.size)
  exact wk_X11_colourings h_t B_t t_thrown t_n t_modulus t_rows t_strands t_letters t_listedMany t_listN t_listWhat t_colour t_letter t_table t_twists x1 B.exec B.bytes hml hown hts hK hE (fun q h => Or.inr h) (Nat.le_refl _) (Nat.le_refl _) (fun r t_colour H locs ls pc hP hD hS hk hd => W.iret (v := r) B.exec B.bytes B.returns (fun t ht hW => ⟨⟨r, t_colour, rfl, hk, by rw [ht]; exact hP, va_K.moved hW.alike hK, hD⟩, hS.F ht⟩) hS.2.2 hd) hP hD h

abbrev w_X11_colours (Y : Nat → ClassId) (h_t : Nat) (B_t : Nat → Nat) (t_thrown : Int32) (t_n : Int32) (t_modulus : Int32) (t_rows : Int32) (t_strands : Int32) (t_letters : Int32) (t_listedMany : Int32) (t_listN : Int32) (t_listWhat : Int32) (t_colour : Nat → Int32) (t_letter : Nat → Int32) (t_table : Nat → Int32) (t_twists : Nat → Int32) : va_W := [(h_t, .inr (10, [.int t_thrown, .int t_n, .ref (B_t 2), .int t_modulus, .ref (B_t 4), .ref (B_t 5), .ref (B_t 6), .ref (B_t 7), .ref (B_t 8), .ref (B_t 9), .ref (B_t 10), .int t_rows, .ref (B_t 12), .ref (B_t 13), .ref (B_t 14), .ref (B_t 15), .ref (B_t 16), .ref (B_t 17), .ref (B_t 18), .ref (B_t 19), .int t_strands, .int t_letters, .ref (B_t 22), .ref (B_t 23), .ref (B_t 24), .ref (B_t 25), .int t_listedMany, .int t_listN, .int t_listWhat])), ((B_t 23), .inl (Y 0, 4, .inl t_colour)), ((B_t 22), .inl (Y 0, 24, .inl t_letter)), ((B_t 2), .inl (Y 0, 64, .inl t_table)), ((B_t 4), .inl (Y 0, 64, .inl t_twists))]

set_option maxHeartbeats 20000000 in
set_option maxRecDepth 100000 in
theorem wk_X11_colours {p : Program} {l : Launch} {e : Env} {R : Room} {s : State} {m : MethodId} {args : Array Value} {below : List Frame} {meth : Method} {c : Code} {Q : State → Prop} {G : va_G} {Y : Nat → ClassId} {tF : Nat} {A : Nat → Prop} (h_t : Nat) (B_t : Nat → Nat) (t_thrown : Int32) (t_n : Int32) (t_modulus : Int32) (t_rows : Int32) (t_strands : Int32) (t_letters : Int32) (t_listedMany : Int32) (t_listN : Int32) (t_listWhat : Int32) (t_colour : Nat → Int32) (t_letter : Nat → Int32) (t_table : Nat → Int32) (t_twists : Nat → Int32) {K : Int32 → Int32 → (Nat → Int32) → Prop} (hx : p.tables.exec = Jvm.exec) (hb : c.code = cX11_colours) (hml : c.maxLocals = 1) (hown : s.vm.findClass RX11 = some m.cls) (hts : ∀ w ∈ wsX11_colours, w.before args s = true) (hK : va_K G vwCl (tyL Y) s) (hE : Ev A tF s) (hA : ∀ q, s.heap.size ≤ q → A q) (hRf : 3 ≤ R.frames) (hRl : 77 ≤ R.locals) (hret : ∀ (r : Int32) (t_thrown : Int32) (t_colour : Nat → Int32) (H : Heap) (locs : List Loc) (ls : Array Slot) (pc : Nat), va_P G vwCl (w_X11_colours Y h_t B_t t_thrown t_n t_modulus t_rows t_strands t_letters t_listedMany t_listN t_listWhat t_colour t_letter t_table t_twists) H → va_D A (w_X11_colours Y h_t B_t t_thrown t_n t_modulus t_rows t_strands t_letters t_listedMany t_listN t_listWhat t_colour t_letter t_table t_twists) → va_S A s.heap H locs → K r t_thrown t_colour → decode cX11_colours pc = .ok (.ireturn, 1) → W p l e R s m args below meth c H locs 0 0 Q (F0 m pc ls [.int r])) (hP : va_P G vwCl (w_X11_colours Y h_t B_t t_thrown t_n t_modulus t_rows t_strands t_letters t_listedMany t_listN t_listWhat t_colour t_letter t_table t_twists) s.heap) (hD : va_D A (w_X11_colours Y h_t B_t t_thrown t_n t_modulus t_rows t_strands t_letters t_listedMany t_listN t_listWhat t_colour t_letter t_table t_twists)) (h : pX11_colours t_thrown t_n t_modulus t_strands t_letters t_colour t_letter t_table t_twists K) : W p l e R s m args below meth c s.heap [] 0 0 Q (entryFrame m ([.ref h_t] : List Value).toArray 1) := by
  have inX11 : ∀ w ∈ u_ws RX11 TX11 29, w ∈ wsX11_colours := by decide +kernel
  have hf83 := hts (.fieldLink RX11 83 "RackBenchModel" "thrown" "I") (by decide +kernel)
  have hl := lv_entry ([.ref h_t]) (n := 1) (Nat.le_of_ble_eq_true rfl)
  rw [lg_entry_eq]
  generalize (lg_sl ([.ref h_t]) ++ List.replicate (1 - (lg_sl ([.ref h_t])).length) Slot.unset).toArray = ls at hl ⊢
  have hl : lv_has ls 1 [(0, .ref h_t)] := hl
  generalize hH0 : s.heap = H at hP ⊢
  have hS : va_S A s.heap H [] := by rw [← hH0]; exact va_S.rf
  clear hH0
  generalize ([] : List Loc) = locs at hS ⊢
  refine lv_aload_n hx hb dX11_colours_0 rfl (lv_at hl 0 rfl) ?_
  refine lv_iconst (v := 0) hx hb dX11_colours_1 (by decide) ?_
  refine va_put (D := G) (ci := 10) (v := .int (0 : Int32)) (ty := .int) (C := RX11) (T := TX11) (N := 29) hx hb hts inX11 tyX11 tyX11_ok nmX11 hown hK hP hD hS 0 rfl rfl 0 (by decide) hf83 (fun _ h9 => h9) rfl (by decide +kernel) rfl rfl (Nat.le_of_ble_eq_true rfl) dX11_colours_2 (fun H locs hP hD hS => ?_)
  have hP : va_P G vwCl (w_X11_colours Y h_t B_t (0 : Int32) t_n t_modulus t_rows t_strands t_letters t_listedMany t_listN t_listWhat t_colour t_letter t_table t_twists) H := hP
  have hD : va_D A (w_X11_colours Y h_t B_t (0 : Int32) t_n t_modulus t_rows t_strands t_letters t_listedMany t_listN t_listWhat t_colour t_letter t_table t_twists) := hD
  refine lv_aload_n hx hb dX11_colours_5 rfl (lv_at hl 0 rfl) ?_
  refine mc_iV ⟨hx, hb, hml, hown, hts⟩ hK hE hA hP hD hS (c_X11_isRack l G Y tF H.size h_t B_t (0 : Int32) t_n t_modulus t_rows t_strands t_letters t_listedMany t_listN t_listWhat t_table h) (cwV 0 hts gX11_colours_X11_isRack rfl rfl rfl (by decide +kernel) ⟨Nat.le_trans (by decide) hRf, Nat.le_trans (by decide) hRl⟩) (fun u => (w_X11_colours Y h_t B_t (0 : Int32) t_n t_modulus t_rows t_strands t_letters t_listedMany t_listN t_listWhat t_colour t_letter t_table t_twists)) [0, 3] [1, 2, 4] [3, 0, 1, 4, 2] rfl rfl rfl rfl (by decide) (fun _ => rfl) rfl 0 10 rfl rfl rfl rfl hl.1 rfl (Nat.le_of_ble_eq_true rfl) dX11_colours_6 (fun r6 u H locs h hP hD hS => ?_)
  try dsimp only at h
  have hP : va_P G vwCl (w_X11_colours Y h_t B_t (0 : Int32) t_n t_modulus t_rows t_strands t_letters t_listedMany t_listN t_listWhat t_colour t_letter t_table t_twists) H := hP
  have hD : va_D A (w_X11_colours Y h_t B_t (0 : Int32) t_n t_modulus t_rows t_strands t_letters t_listedMany t_listN t_listWhat t_colour t_letter t_table t_twists) := hD
  obtain ⟨ht, hf⟩ := h
  refine lv_if_eq (tgt := 20) hx hb dX11_colours_9 (by decide) (fun c9 => ?_) (fun c9 => ?_)
  · have h := ht c9
    refine lv_iconst (v := -1) hx hb dX11_colours_20 (by decide) ?_
    exact hret (-1 : Int32) (0 : Int32) t_colour H locs ls _ hP hD hS h dX11_colours_21
  · have h := hf c9
    refine lv_aload_n hx hb dX11_colours_12 rfl (lv_at hl 0 rfl) ?_
    refine lv_iconst (v := -1) hx hb dX11_colours_13 (by decide) ?_
    refine mc_iV ⟨hx, hb, hml, hown, hts⟩ hK hE hA hP hD hS (c_X11_colourings l G Y tF H.size h_t B_t (0 : Int32) t_n t_modulus t_rows t_strands t_letters t_listedMany t_listN t_listWhat t_colour t_letter t_table t_twists (-1 : Int32) h) (cwV 1 hts gX11_colours_X11_colourings rfl rfl rfl (by decide +kernel) ⟨Nat.le_trans (by decide) hRf, Nat.le_trans (by decide) hRl⟩) (fun u => (w_X11_colours Y h_t B_t (0 : Int32) t_n t_modulus t_rows t_strands t_letters t_listedMany t_listN t_listWhat u t_letter t_table t_twists)) [0, 1, 2, 3, 4] [] [0, 1, 2, 3, 4] rfl rfl rfl rfl (by decide) (fun _ => rfl) rfl 0 10 rfl rfl rfl rfl hl.1 rfl (Nat.le_of_ble_eq_true rfl) dX11_colours_14 (fun r14 u H locs h hP hD hS => ?_)
    obtain ⟨t_colour_14, rfl⟩ : ∃ z, z = u := ⟨_, rfl⟩
    try dsimp only at h
    have hP : va_P G vwCl (w_X11_colours Y h_t B_t (0 : Int32) t_n t_modulus t_rows t_strands t_letters t_listedMany t_listN t_listWhat t_colour_14 t_letter t_table t_twists) H := hP
    have hD : va_D A (w_X11_colours Y h_t B_t (0 : Int32) t_n t_modulus t_rows t_strands t_letters t_listedMany t_listN t_listWhat t_colour_14 t_letter t_table t_twists) := hD
    refine lv_goto (tgt := 21) hx hb dX11_colours_17 (by decide) ?_
    exact hret r14 (0 : Int32) t_colour_14 H locs ls _ hP hD hS h dX11_colours_21

set_option maxHeartbeats 20000000 in
set_option maxRecDepth 100000 in
theorem c_X11_colours (l : Launch) (G : va_G) (Y : Nat → ClassId) (tF sz : Nat) (h_t : Nat) (B_t : Nat → Nat) (t_thrown : Int32) (t_n : Int32) (t_modulus : Int32) (t_rows : Int32) (t_strands : Int32) (t_letters : Int32) (t_listedMany : Int32) (t_listN : Int32) (t_listWhat : Int32) (t_colour : Nat → Int32) (t_letter : Nat → Int32) (t_table : Nat → Int32) (t_twists : Nat → Int32) {K : Int32 → Int32 → (Nat → Int32) → Prop} (h : pX11_colours t_thrown t_n t_modulus t_strands t_letters t_colour t_letter t_table t_twists K) : Met l yX11_colours wsX11_colours ({ frames := 3, cells := 0, slots := 0, locals := 77 }) (PcM G Y tF sz (w_X11_colours Y h_t B_t t_thrown t_n t_modulus t_rows t_strands t_letters t_listedMany t_listN t_listWhat t_colour t_letter t_table t_twists) [.ref h_t]) (va_Qi (fun (r : Int32) (u : Int32 × (Nat → Int32)) => K r u.1 u.2) (fun u t => BM G Y (va_A (w_X11_colours Y h_t B_t t_thrown t_n t_modulus t_rows t_strands t_letters t_listedMany t_listN t_listWhat t_colour t_letter t_table t_twists) sz) (w_X11_colours Y h_t B_t u.1 t_n t_modulus t_rows t_strands t_letters t_listedMany t_listN t_listWhat u.2 t_letter t_table t_twists) t) (va_A (w_X11_colours Y h_t B_t t_thrown t_n t_modulus t_rows t_strands t_letters t_listedMany t_listN t_listWhat t_colour t_letter t_table t_twists) sz)) 0 0 (va_A (w_X11_colours Y h_t B_t t_thrown t_n t_modulus t_rows t_strands t_letters t_listedMany t_listN t_listWhat t_colour t_letter t_table t_twists) sz) := by
  refine Met.ofW (cc := cX11_colours) (maxL := 1) (ret := (some .int)) (by decide +kernel) rfl ?_
  intro p e s m args below meth c s₁ B hml hv
  obtain ⟨rfl, hsz, hP, hK, hD0, hE⟩ := hv
  have hts := atoms_spec (ws := wsX11_colours) B.pre
  have hown : s.vm.findClass RX11 = some m.cls := findClass_of_methodNamed B.named
  have hlocks := B.notSynchronized
  subst hsz
  have hD := hD0.self (sz := s.heap.size)
  exact wk_X11_colours h_t B_t t_thrown t_n t_modulus t_rows t_strands t_letters t_listedMany t_listN t_listWhat t_colour t_letter t_table t_twists B.exec B.bytes hml hown hts hK hE (fun q h => Or.inr h) (Nat.le_refl _) (Nat.le_refl _) (fun r t_thrown t_colour H locs ls pc hP hD hS hk hd => W.iret (v := r) B.exec B.bytes B.returns (fun t ht hW => ⟨⟨r, (t_thrown, t_colour), rfl, hk, by rw [ht]; exact hP, va_K.moved hW.alike hK, hD⟩, hS.F ht⟩) hS.2.2 hd) hP hD h

abbrev w_X11_sums (Y : Nat → ClassId) (h_t : Nat) (B_t : Nat → Nat) (t_thrown : Int32) (t_n : Int32) (t_modulus : Int32) (t_rows : Int32) (t_strands : Int32) (t_letters : Int32) (t_listedMany : Int32) (t_listN : Int32) (t_listWhat : Int32) (t_colour : Nat → Int32) (t_letter : Nat → Int32) (t_table : Nat → Int32) (t_twists : Nat → Int32) : va_W := [(h_t, .inr (10, [.int t_thrown, .int t_n, .ref (B_t 2), .int t_modulus, .ref (B_t 4), .ref (B_t 5), .ref (B_t 6), .ref (B_t 7), .ref (B_t 8), .ref (B_t 9), .ref (B_t 10), .int t_rows, .ref (B_t 12), .ref (B_t 13), .ref (B_t 14), .ref (B_t 15), .ref (B_t 16), .ref (B_t 17), .ref (B_t 18), .ref (B_t 19), .int t_strands, .int t_letters, .ref (B_t 22), .ref (B_t 23), .ref (B_t 24), .ref (B_t 25), .int t_listedMany, .int t_listN, .int t_listWhat])), ((B_t 23), .inl (Y 0, 4, .inl t_colour)), ((B_t 22), .inl (Y 0, 24, .inl t_letter)), ((B_t 2), .inl (Y 0, 64, .inl t_table)), ((B_t 4), .inl (Y 0, 64, .inl t_twists))]

set_option maxHeartbeats 20000000 in
set_option maxRecDepth 100000 in
theorem wk_X11_sums {p : Program} {l : Launch} {e : Env} {R : Room} {s : State} {m : MethodId} {args : Array Value} {below : List Frame} {meth : Method} {c : Code} {Q : State → Prop} {G : va_G} {Y : Nat → ClassId} {tF : Nat} {A : Nat → Prop} (h_t : Nat) (B_t : Nat → Nat) (t_thrown : Int32) (t_n : Int32) (t_modulus : Int32) (t_rows : Int32) (t_strands : Int32) (t_letters : Int32) (t_listedMany : Int32) (t_listN : Int32) (t_listWhat : Int32) (t_colour : Nat → Int32) (t_letter : Nat → Int32) (t_table : Nat → Int32) (t_twists : Nat → Int32) (x1 : Int32) {K : Int32 → Int32 → (Nat → Int32) → Prop} (hx : p.tables.exec = Jvm.exec) (hb : c.code = cX11_sums) (hml : c.maxLocals = 2) (hown : s.vm.findClass RX11 = some m.cls) (hts : ∀ w ∈ wsX11_sums, w.before args s = true) (hK : va_K G vwCl (tyL Y) s) (hE : Ev A tF s) (hA : ∀ q, s.heap.size ≤ q → A q) (hRf : 3 ≤ R.frames) (hRl : 77 ≤ R.locals) (hret : ∀ (r : Int32) (t_thrown : Int32) (t_colour : Nat → Int32) (H : Heap) (locs : List Loc) (ls : Array Slot) (pc : Nat), va_P G vwCl (w_X11_sums Y h_t B_t t_thrown t_n t_modulus t_rows t_strands t_letters t_listedMany t_listN t_listWhat t_colour t_letter t_table t_twists) H → va_D A (w_X11_sums Y h_t B_t t_thrown t_n t_modulus t_rows t_strands t_letters t_listedMany t_listN t_listWhat t_colour t_letter t_table t_twists) → va_S A s.heap H locs → K r t_thrown t_colour → decode cX11_sums pc = .ok (.ireturn, 1) → W p l e R s m args below meth c H locs 0 0 Q (F0 m pc ls [.int r])) (hP : va_P G vwCl (w_X11_sums Y h_t B_t t_thrown t_n t_modulus t_rows t_strands t_letters t_listedMany t_listN t_listWhat t_colour t_letter t_table t_twists) s.heap) (hD : va_D A (w_X11_sums Y h_t B_t t_thrown t_n t_modulus t_rows t_strands t_letters t_listedMany t_listN t_listWhat t_colour t_letter t_table t_twists)) (h : pX11_sums t_thrown t_n t_modulus t_strands t_letters t_colour t_letter t_table t_twists x1 K) : W p l e R s m args below meth c s.heap [] 0 0 Q (entryFrame m ([.ref h_t, .int x1] : List Value).toArray 2) := by
  have inX11 : ∀ w ∈ u_ws RX11 TX11 29, w ∈ wsX11_sums := by decide +kernel
  have hf17 := hts (.fieldLink RX11 17 "RackBenchModel" "modulus" "I") (by decide +kernel)
  have hf83 := hts (.fieldLink RX11 83 "RackBenchModel" "thrown" "I") (by decide +kernel)
  have hl := lv_entry ([.ref h_t, .int x1]) (n := 2) (Nat.le_of_ble_eq_true rfl)
  rw [lg_entry_eq]
  generalize (lg_sl ([.ref h_t, .int x1]) ++ List.replicate (2 - (lg_sl ([.ref h_t, .int x1])).length) Slot.unset).toArray = ls at hl ⊢
  have hl : lv_has ls 2 [(0, .ref h_t), (1, .int x1)] := hl
  generalize hH0 : s.heap = H at hP ⊢
  have hS : va_S A s.heap H [] := by rw [← hH0]; exact va_S.rf
  clear hH0
  generalize ([] : List Loc) = locs at hS ⊢
  have J36 : ∀ (t_thrown : Int32) (t_colour : Nat → Int32) (H : Heap) (locs : List Loc) (ls : Array Slot), pX11_sums_36 t_n t_modulus t_strands t_letters t_letter t_table t_twists K t_thrown t_colour → va_P G vwCl (w_X11_sums Y h_t B_t t_thrown t_n t_modulus t_rows t_strands t_letters t_listedMany t_listN t_listWhat t_colour t_letter t_table t_twists) H → va_D A (w_X11_sums Y h_t B_t t_thrown t_n t_modulus t_rows t_strands t_letters t_listedMany t_listN t_listWhat t_colour t_letter t_table t_twists) → va_S A s.heap H locs → lv_has ls 2 [] → W p l e R s m args below meth c H locs 0 0 Q (F0 m 36 ls []) := by
    intro t_thrown t_colour H locs ls h hP hD hS hl
    refine lv_iconst (v := -1) hx hb dX11_sums_36 (by decide) ?_
    exact hret (-1 : Int32) t_thrown t_colour H locs ls _ hP hD hS h dX11_sums_37
  refine lv_aload_n hx hb dX11_sums_0 rfl (lv_at hl 0 rfl) ?_
  refine lv_iconst (v := 0) hx hb dX11_sums_1 (by decide) ?_
  refine va_put (D := G) (ci := 10) (v := .int (0 : Int32)) (ty := .int) (C := RX11) (T := TX11) (N := 29) hx hb hts inX11 tyX11 tyX11_ok nmX11 hown hK hP hD hS 0 rfl rfl 0 (by decide) hf83 (fun _ h9 => h9) rfl (by decide +kernel) rfl rfl (Nat.le_of_ble_eq_true rfl) dX11_sums_2 (fun H locs hP hD hS => ?_)
  have hP : va_P G vwCl (w_X11_sums Y h_t B_t (0 : Int32) t_n t_modulus t_rows t_strands t_letters t_listedMany t_listN t_listWhat t_colour t_letter t_table t_twists) H := hP
  have hD : va_D A (w_X11_sums Y h_t B_t (0 : Int32) t_n t_modulus t_rows t_strands t_letters t_listedMany t_listN t_listWhat t_colour t_letter t_table t_twists) := hD
  refine lv_iload_n hx hb dX11_sums_5 rfl (lv_at hl 1 rfl) ?_
  refine lv_i2l hx hb dX11_sums_6 rfl ?_
  refine lv_lconst (v := 0) hx hb dX11_sums_7 (by decide) ?_
  refine lv_aload_n hx hb dX11_sums_8 rfl (lv_at hl 0 rfl) ?_
  refine va_get (D := G) (ci := 10) (v := .int t_modulus) (C := RX11) (T := TX11) (N := 29) hx hb hts inX11 hown hK hP 0 rfl rfl 3 (by decide) hf17 (fun _ h9 => h9) rfl dX11_sums_9 ?_
  refine lv_iconst (v := 1) hx hb dX11_sums_12 (by decide) ?_
  refine lv_isub hx hb dX11_sums_13 ?_
  refine lv_i2l hx hb dX11_sums_14 rfl ?_
  refine mc_iS ⟨hx, hb, hml, hown, hts⟩ hK hE hA hP hD hS (c_X11_in l G Y tF H.size (Int32.toInt64 x1) (0 : Int64) (Int32.toInt64 (t_modulus - (1 : Int32))) h) (va_cwS 3 hts gX11_sums_X11_in rfl rfl rfl (by decide +kernel) ⟨Nat.le_trans (by decide) hRf, Nat.le_trans (by decide) hRl⟩) (fun u => (w_X11_sums Y h_t B_t (0 : Int32) t_n t_modulus t_rows t_strands t_letters t_listedMany t_listN t_listWhat t_colour t_letter t_table t_twists)) [] [0, 1, 2, 3, 4] [0, 1, 2, 3, 4] rfl rfl rfl rfl (by decide) (fun _ => rfl) rfl rfl hl.1 rfl (Nat.le_of_ble_eq_true rfl) dX11_sums_15 (fun r15 u H locs h hP hD hS => ?_)
  try dsimp only at h
  have hP : va_P G vwCl (w_X11_sums Y h_t B_t (0 : Int32) t_n t_modulus t_rows t_strands t_letters t_listedMany t_listN t_listWhat t_colour t_letter t_table t_twists) H := hP
  have hD : va_D A (w_X11_sums Y h_t B_t (0 : Int32) t_n t_modulus t_rows t_strands t_letters t_listedMany t_listN t_listWhat t_colour t_letter t_table t_twists) := hD
  obtain ⟨ht, hf⟩ := h
  refine lv_if_eq (tgt := 36) hx hb dX11_sums_18 (by decide) (fun c9 => ?_) (fun c9 => ?_)
  · have h := ht c9
    exact J36 (0 : Int32) t_colour H locs ls h hP hD hS (lv_sub hl [] rfl)
  · have h := hf c9
    refine lv_aload_n hx hb dX11_sums_21 rfl (lv_at hl 0 rfl) ?_
    refine mc_iV ⟨hx, hb, hml, hown, hts⟩ hK hE hA hP hD hS (c_X11_isRack l G Y tF H.size h_t B_t (0 : Int32) t_n t_modulus t_rows t_strands t_letters t_listedMany t_listN t_listWhat t_table h) (cwV 0 hts gX11_sums_X11_isRack rfl rfl rfl (by decide +kernel) ⟨Nat.le_trans (by decide) hRf, Nat.le_trans (by decide) hRl⟩) (fun u => (w_X11_sums Y h_t B_t (0 : Int32) t_n t_modulus t_rows t_strands t_letters t_listedMany t_listN t_listWhat t_colour t_letter t_table t_twists)) [0, 3] [1, 2, 4] [3, 0, 1, 4, 2] rfl rfl rfl rfl (by decide) (fun _ => rfl) rfl 0 10 rfl rfl rfl rfl hl.1 rfl (Nat.le_of_ble_eq_true rfl) dX11_sums_22 (fun r22 u H locs h hP hD hS => ?_)
    try dsimp only at h
    have hP : va_P G vwCl (w_X11_sums Y h_t B_t (0 : Int32) t_n t_modulus t_rows t_strands t_letters t_listedMany t_listN t_listWhat t_colour t_letter t_table t_twists) H := hP
    have hD : va_D A (w_X11_sums Y h_t B_t (0 : Int32) t_n t_modulus t_rows t_strands t_letters t_listedMany t_listN t_listWhat t_colour t_letter t_table t_twists) := hD
    obtain ⟨ht, hf⟩ := h
    refine lv_if_eq (tgt := 36) hx hb dX11_sums_25 (by decide) (fun c9 => ?_) (fun c9 => ?_)
    · have h := ht c9
      exact J36 (0 : Int32) t_colour H locs ls h hP hD hS (lv_sub hl [] rfl)
    · have h := hf c9
      refine lv_aload_n hx hb dX11_sums_28 rfl (lv_at hl 0 rfl) ?_
      refine lv_iload_n hx hb dX11_sums_29 rfl (lv_at hl 1 rfl) ?_
      refine mc_iV ⟨hx, hb, hml, hown, hts⟩ hK hE hA hP hD hS (c_X11_colourings l G Y tF H.size h_t B_t (0 : Int32) t_n t_modulus t_rows t_strands t_letters t_listedMany t_listN t_listWhat t_colour t_letter t_table t_twists x1 h) (cwV 1 hts gX11_sums_X11_colourings rfl rfl rfl (by decide +kernel) ⟨Nat.le_trans (by decide) hRf, Nat.le_trans (by decide) hRl⟩) (fun u => (w_X11_sums Y h_t B_t (0 : Int32) t_n t_modulus t_rows t_strands t_letters t_listedMany t_listN t_listWhat u t_letter t_table t_twists)) [0, 1, 2, 3, 4] [] [0, 1, 2, 3, 4] rfl rfl rfl rfl (by decide) (fun _ => rfl) rfl 0 10 rfl rfl rfl rfl hl.1 rfl (Nat.le_of_ble_eq_true rfl) dX11_sums_30 (fun r30 u H locs h hP hD hS => ?_)
      obtain ⟨t_colour_30, rfl⟩ : ∃ z, z = u := ⟨_, rfl⟩
      try dsimp only at h
      have hP : va_P G vwCl (w_X11_sums Y h_t B_t (0 : Int32) t_n t_modulus t_rows t_strands t_letters t_listedMany t_listN t_listWhat t_colour_30 t_letter t_table t_twists) H := hP
      have hD : va_D A (w_X11_sums Y h_t B_t (0 : Int32) t_n t_modulus t_rows t_strands t_letters t_listedMany t_listN t_listWhat t_colour_30 t_letter t_table t_twists) := hD
      refine lv_goto (tgt := 37) hx hb dX11_sums_33 (by decide) ?_
      exact hret r30 (0 : Int32) t_colour_30 H locs ls _ hP hD hS h dX11_sums_37

set_option maxHeartbeats 20000000 in
set_option maxRecDepth 100000 in
theorem c_X11_sums (l : Launch) (G : va_G) (Y : Nat → ClassId) (tF sz : Nat) (h_t : Nat) (B_t : Nat → Nat) (t_thrown : Int32) (t_n : Int32) (t_modulus : Int32) (t_rows : Int32) (t_strands : Int32) (t_letters : Int32) (t_listedMany : Int32) (t_listN : Int32) (t_listWhat : Int32) (t_colour : Nat → Int32) (t_letter : Nat → Int32) (t_table : Nat → Int32) (t_twists : Nat → Int32) (x1 : Int32) {K : Int32 → Int32 → (Nat → Int32) → Prop} (h : pX11_sums t_thrown t_n t_modulus t_strands t_letters t_colour t_letter t_table t_twists x1 K) : Met l yX11_sums wsX11_sums ({ frames := 3, cells := 0, slots := 0, locals := 77 }) (PcM G Y tF sz (w_X11_sums Y h_t B_t t_thrown t_n t_modulus t_rows t_strands t_letters t_listedMany t_listN t_listWhat t_colour t_letter t_table t_twists) [.ref h_t, .int x1]) (va_Qi (fun (r : Int32) (u : Int32 × (Nat → Int32)) => K r u.1 u.2) (fun u t => BM G Y (va_A (w_X11_sums Y h_t B_t t_thrown t_n t_modulus t_rows t_strands t_letters t_listedMany t_listN t_listWhat t_colour t_letter t_table t_twists) sz) (w_X11_sums Y h_t B_t u.1 t_n t_modulus t_rows t_strands t_letters t_listedMany t_listN t_listWhat u.2 t_letter t_table t_twists) t) (va_A (w_X11_sums Y h_t B_t t_thrown t_n t_modulus t_rows t_strands t_letters t_listedMany t_listN t_listWhat t_colour t_letter t_table t_twists) sz)) 0 0 (va_A (w_X11_sums Y h_t B_t t_thrown t_n t_modulus t_rows t_strands t_letters t_listedMany t_listN t_listWhat t_colour t_letter t_table t_twists) sz) := by
  refine Met.ofW (cc := cX11_sums) (maxL := 2) (ret := (some .int)) (by decide +kernel) rfl ?_
  intro p e s m args below meth c s₁ B hml hv
  obtain ⟨rfl, hsz, hP, hK, hD0, hE⟩ := hv
  have hts := atoms_spec (ws := wsX11_sums) B.pre
  have hown : s.vm.findClass RX11 = some m.cls := findClass_of_methodNamed B.named
  have hlocks := B.notSynchronized
  subst hsz
  have hD := hD0.self (sz := s.heap.size)
  exact wk_X11_sums h_t B_t t_thrown t_n t_modulus t_rows t_strands t_letters t_listedMany t_listN t_listWhat t_colour t_letter t_table t_twists x1 B.exec B.bytes hml hown hts hK hE (fun q h => Or.inr h) (Nat.le_refl _) (Nat.le_refl _) (fun r t_thrown t_colour H locs ls pc hP hD hS hk hd => W.iret (v := r) B.exec B.bytes B.returns (fun t ht hW => ⟨⟨r, (t_thrown, t_colour), rfl, hk, by rw [ht]; exact hP, va_K.moved hW.alike hK, hD⟩, hS.F ht⟩) hS.2.2 hd) hP hD h

