abbrev w_X11_thrown (Y : Nat → ClassId) (h_t : Nat) (B_t : Nat → Nat) (t_thrown : Int32) (t_n : Int32) (t_modulus : Int32) (t_rows : Int32) (t_strands : Int32) (t_letters : Int32) (t_listedMany : Int32) (t_listN : Int32) (t_listWhat : Int32) : va_W := [(h_t, .inr (10, [.int t_thrown, .int t_n, .ref (B_t 2), .int t_modulus, .ref (B_t 4), .ref (B_t 5), .ref (B_t 6), .ref (B_t 7), .ref (B_t 8), .ref (B_t 9), .ref (B_t 10), .int t_rows, .ref (B_t 12), .ref (B_t 13), .ref (B_t 14), .ref (B_t 15), .ref (B_t 16), .ref (B_t 17), .ref (B_t 18), .ref (B_t 19), .int t_strands, .int t_letters, .ref (B_t 22), .ref (B_t 23), .ref (B_t 24), .ref (B_t 25), .int t_listedMany, .int t_listN, .int t_listWhat]))]

set_option maxHeartbeats 4000000 in
set_option maxRecDepth 100000 in
theorem wk_X11_thrown {p : Program} {l : Launch} {e : Env} {R : Room} {s : State} {m : MethodId} {args : Array Value} {below : List Frame} {meth : Method} {c : Code} {Q : State → Prop} {G : va_G} {Y : Nat → ClassId} {tF : Nat} {A : Nat → Prop} (h_t : Nat) (B_t : Nat → Nat) (t_thrown : Int32) (t_n : Int32) (t_modulus : Int32) (t_rows : Int32) (t_strands : Int32) (t_letters : Int32) (t_listedMany : Int32) (t_listN : Int32) (t_listWhat : Int32) {K : Int32 → Prop} (hx : p.tables.exec = Jvm.exec) (hb : c.code = cX11_thrown) (hml : c.maxLocals = 1) (hown : s.vm.findClass RX11 = some m.cls) (hts : ∀ w ∈ wsX11_thrown, w.before args s = true) (hK : va_K G vwCl (tyL Y) s) (hE : Ev A tF s) (hA : ∀ q, s.heap.size ≤ q → A q) (hRf : 0 ≤ R.frames) (hRl : 0 ≤ R.locals) (hret : ∀ (r : Int32)  (H : Heap) (locs : List Loc) (ls : Array Slot) (pc : Nat), va_P G vwCl (w_X11_thrown Y h_t B_t t_thrown t_n t_modulus t_rows t_strands t_letters t_listedMany t_listN t_listWhat) H → va_D A (w_X11_thrown Y h_t B_t t_thrown t_n t_modulus t_rows t_strands t_letters t_listedMany t_listN t_listWhat) → va_S A s.heap H locs → K r → decode cX11_thrown pc = .ok (.ireturn, 1) → W p l e R s m args below meth c H locs 0 0 Q (F0 m pc ls [.int r])) (hP : va_P G vwCl (w_X11_thrown Y h_t B_t t_thrown t_n t_modulus t_rows t_strands t_letters t_listedMany t_listN t_listWhat) s.heap) (hD : va_D A (w_X11_thrown Y h_t B_t t_thrown t_n t_modulus t_rows t_strands t_letters t_listedMany t_listN t_listWhat)) (h : pX11_thrown t_thrown K) : W p l e R s m args below meth c s.heap [] 0 0 Q (entryFrame m ([.ref h_t] : List Value).toArray 1) := by
  have inX11 : ∀ w ∈ u_ws RX11 TX11 29, w ∈ wsX11_thrown := by decide +kernel
  have hf83 := hts (.fieldLink RX11 83 "RackBenchModel" "thrown" "I") (by decide +kernel)
  have hl := lv_entry ([.ref h_t]) (n := 1) (Nat.le_of_ble_eq_true rfl)
  rw [lg_entry_eq]
  generalize (lg_sl ([.ref h_t]) ++ List.replicate (1 - (lg_sl ([.ref h_t])).length) Slot.unset).toArray = ls at hl ⊢
  have hl : lv_has ls 1 [(0, .ref h_t)] := hl
  generalize hH0 : s.heap = H at hP ⊢
  have hS : va_S A s.heap H [] := by rw [← hH0]; exact va_S.rf
  clear hH0
  generalize ([] : List Loc) = locs at hS ⊢
  refine lv_aload_n hx hb dX11_thrown_0 rfl (lv_at hl 0 rfl) ?_
  refine va_get (D := G) (ci := 10) (v := .int t_thrown) (C := RX11) (T := TX11) (N := 29) hx hb hts inX11 hown hK hP 0 rfl rfl 0 (by decide) hf83 (fun _ h9 => h9) rfl dX11_thrown_1 ?_
  exact hret t_thrown  H locs ls _ hP hD hS h dX11_thrown_4

set_option maxHeartbeats 4000000 in
set_option maxRecDepth 100000 in
theorem c_X11_thrown (l : Launch) (G : va_G) (Y : Nat → ClassId) (tF sz : Nat) (h_t : Nat) (B_t : Nat → Nat) (t_thrown : Int32) (t_n : Int32) (t_modulus : Int32) (t_rows : Int32) (t_strands : Int32) (t_letters : Int32) (t_listedMany : Int32) (t_listN : Int32) (t_listWhat : Int32) {K : Int32 → Prop} (h : pX11_thrown t_thrown K) : Met l yX11_thrown wsX11_thrown ({ frames := 0, cells := 0, slots := 0, locals := 0 }) (PcM G Y tF sz (w_X11_thrown Y h_t B_t t_thrown t_n t_modulus t_rows t_strands t_letters t_listedMany t_listN t_listWhat) [.ref h_t]) (va_Qi (fun (r : Int32) (u : Unit) => K r ) (fun u t => BM G Y (va_A (w_X11_thrown Y h_t B_t t_thrown t_n t_modulus t_rows t_strands t_letters t_listedMany t_listN t_listWhat) sz) (w_X11_thrown Y h_t B_t t_thrown t_n t_modulus t_rows t_strands t_letters t_listedMany t_listN t_listWhat) t) (va_A (w_X11_thrown Y h_t B_t t_thrown t_n t_modulus t_rows t_strands t_letters t_listedMany t_listN t_listWhat) sz)) 0 0 (va_A (w_X11_thrown Y h_t B_t t_thrown t_n t_modulus t_rows t_strands t_letters t_listedMany t_listN t_listWhat) sz) := by
  refine Met.ofW (cc := cX11_thrown) (maxL := 1) (ret := (some .int)) (by decide +kernel) rfl ?_
  intro p e s m args below meth c s₁ B hml hv
  obtain ⟨rfl, hsz, hP, hK, hD0, hE⟩ := hv
  have hts := atoms_spec (ws := wsX11_thrown) B.pre
  have hown : s.vm.findClass RX11 = some m.cls := findClass_of_methodNamed B.named
  have hlocks := B.notSynchronized
  subst hsz
  have hD := hD0.self (sz := s.heap.size)
  exact wk_X11_thrown h_t B_t t_thrown t_n t_modulus t_rows t_strands t_letters t_listedMany t_listN t_listWhat B.exec B.bytes hml hown hts hK hE (fun q h => Or.inr h) (Nat.le_refl _) (Nat.le_refl _) (fun r  H locs ls pc hP hD hS hk hd => W.iret (v := r) B.exec B.bytes B.returns (fun t ht hW => ⟨⟨r, (), rfl, hk, by rw [ht]; exact hP, va_K.moved hW.alike hK, hD⟩, hS.F ht⟩) hS.2.2 hd) hP hD h

abbrev w_X11_in (Y : Nat → ClassId) : va_W := []

set_option maxHeartbeats 4000000 in
set_option maxRecDepth 100000 in
theorem wk_X11_in {p : Program} {l : Launch} {e : Env} {R : Room} {s : State} {m : MethodId} {args : Array Value} {below : List Frame} {meth : Method} {c : Code} {Q : State → Prop} {G : va_G} {Y : Nat → ClassId} {tF : Nat} {A : Nat → Prop} (x0 : Int64) (x2 : Int64) (x4 : Int64) {K : Int32 → Prop} (hx : p.tables.exec = Jvm.exec) (hb : c.code = cX11_in) (hml : c.maxLocals = 6) (hown : s.vm.findClass RX11 = some m.cls) (hts : ∀ w ∈ wsX11_in, w.before args s = true) (hK : va_K G vwCl (tyL Y) s) (hE : Ev A tF s) (hA : ∀ q, s.heap.size ≤ q → A q) (hRf : 0 ≤ R.frames) (hRl : 0 ≤ R.locals) (hret : ∀ (r : Int32)  (H : Heap) (locs : List Loc) (ls : Array Slot) (pc : Nat), va_P G vwCl (w_X11_in Y) H → va_D A (w_X11_in Y) → va_S A s.heap H locs → zb r → K r → decode cX11_in pc = .ok (.ireturn, 1) → W p l e R s m args below meth c H locs 0 0 Q (F0 m pc ls [.int r])) (hP : va_P G vwCl (w_X11_in Y) s.heap) (hD : va_D A (w_X11_in Y)) (h : pX11_in x0 x2 x4 K) : W p l e R s m args below meth c s.heap [] 0 0 Q (entryFrame m ([.long x0, .long x2, .long x4] : List Value).toArray 6) := by
  have hl := lv_entry ([.long x0, .long x2, .long x4]) (n := 6) (Nat.le_of_ble_eq_true rfl)
  rw [lg_entry_eq]
  generalize (lg_sl ([.long x0, .long x2, .long x4]) ++ List.replicate (6 - (lg_sl ([.long x0, .long x2, .long x4])).length) Slot.unset).toArray = ls at hl ⊢
  have hl : lv_has ls 6 [(0, .long x0), (2, .long x2), (4, .long x4)] := hl
  generalize hH0 : s.heap = H at hP ⊢
  have hS : va_S A s.heap H [] := by rw [← hH0]; exact va_S.rf
  clear hH0
  generalize ([] : List Loc) = locs at hS ⊢
  have J17 : ∀  (H : Heap) (locs : List Loc) (ls : Array Slot), pX11_in_17 K → va_P G vwCl (w_X11_in Y) H → va_D A (w_X11_in Y) → va_S A s.heap H locs → lv_has ls 6 [] → W p l e R s m args below meth c H locs 0 0 Q (F0 m 17 ls []) := by
    intro  H locs ls h hP hD hS hl
    refine lv_iconst (v := 0) hx hb dX11_in_17 (by decide) ?_
    obtain ⟨hz, h⟩ := h
    exact hret (0 : Int32)  H locs ls _ hP hD hS hz h dX11_in_18
  refine lv_lload_n hx hb dX11_in_0 rfl (lv_at hl 0 rfl) ?_
  refine lv_lload_n hx hb dX11_in_1 rfl (lv_at hl 1 rfl) ?_
  refine W.lcmp hx hb dX11_in_2 ?_
  obtain ⟨ht, hf⟩ := h
  refine lv_if_lt (tgt := 17) hx hb dX11_in_3 (by decide) (fun c9 => ?_) (fun c9 => ?_)
  · have h := ht c9
    exact J17  H locs ls h hP hD hS (lv_sub hl [] rfl)
  · have h := hf c9
    refine lv_lload_n hx hb dX11_in_6 rfl (lv_at hl 0 rfl) ?_
    refine lv_lload hx hb dX11_in_7 (lv_at hl 2 rfl) ?_
    refine W.lcmp hx hb dX11_in_9 ?_
    obtain ⟨ht, hf⟩ := h
    refine lv_if_gt (tgt := 17) hx hb dX11_in_10 (by decide) (fun c9 => ?_) (fun c9 => ?_)
    · have h := ht c9
      exact J17  H locs ls h hP hD hS (lv_sub hl [] rfl)
    · have h := hf c9
      refine lv_iconst (v := 1) hx hb dX11_in_13 (by decide) ?_
      refine lv_goto (tgt := 18) hx hb dX11_in_14 (by decide) ?_
      obtain ⟨hz, h⟩ := h
      exact hret (1 : Int32)  H locs ls _ hP hD hS hz h dX11_in_18

set_option maxHeartbeats 4000000 in
set_option maxRecDepth 100000 in
theorem c_X11_in (l : Launch) (G : va_G) (Y : Nat → ClassId) (tF sz : Nat) (x0 : Int64) (x2 : Int64) (x4 : Int64) {K : Int32 → Prop} (h : pX11_in x0 x2 x4 K) : Met l yX11_in wsX11_in ({ frames := 0, cells := 0, slots := 0, locals := 0 }) (PcM G Y tF sz (w_X11_in Y) [.long x0, .long x2, .long x4]) (va_Qi (fun (r : Int32) (u : Unit) => K r ) (fun u t => BM G Y (va_A (w_X11_in Y) sz) (w_X11_in Y) t) (va_A (w_X11_in Y) sz)) 0 0 (va_A (w_X11_in Y) sz) := by
  refine Met.ofW (cc := cX11_in) (maxL := 6) (ret := (some .boolean)) (by decide +kernel) rfl ?_
  intro p e s m args below meth c s₁ B hml hv
  obtain ⟨rfl, hsz, hP, hK, hD0, hE⟩ := hv
  have hts := atoms_spec (ws := wsX11_in) B.pre
  have hown : s.vm.findClass RX11 = some m.cls := findClass_of_methodNamed B.named
  have hlocks := B.notSynchronized
  subst hsz
  have hD := hD0.self (sz := s.heap.size)
  exact wk_X11_in x0 x2 x4 B.exec B.bytes hml hown hts hK hE (fun q h => Or.inr h) (Nat.le_refl _) (Nat.le_refl _) (fun r  H locs ls pc hP hD hS hz hk hd => W.zret (v := r) B.exec B.bytes B.returns hz.n (fun t ht hW => ⟨⟨r, (), rfl, hk, by rw [ht]; exact hP, va_K.moved hW.alike hK, hD⟩, hS.F ht⟩) hS.2.2 hd) hP hD h

abbrev w_X11_refuse (Y : Nat → ClassId) (h_t : Nat) (B_t : Nat → Nat) (t_thrown : Int32) (t_n : Int32) (t_modulus : Int32) (t_rows : Int32) (t_strands : Int32) (t_letters : Int32) (t_listedMany : Int32) (t_listN : Int32) (t_listWhat : Int32) : va_W := [(h_t, .inr (10, [.int t_thrown, .int t_n, .ref (B_t 2), .int t_modulus, .ref (B_t 4), .ref (B_t 5), .ref (B_t 6), .ref (B_t 7), .ref (B_t 8), .ref (B_t 9), .ref (B_t 10), .int t_rows, .ref (B_t 12), .ref (B_t 13), .ref (B_t 14), .ref (B_t 15), .ref (B_t 16), .ref (B_t 17), .ref (B_t 18), .ref (B_t 19), .int t_strands, .int t_letters, .ref (B_t 22), .ref (B_t 23), .ref (B_t 24), .ref (B_t 25), .int t_listedMany, .int t_listN, .int t_listWhat]))]

set_option maxHeartbeats 4000000 in
set_option maxRecDepth 100000 in
theorem wk_X11_refuse {p : Program} {l : Launch} {e : Env} {R : Room} {s : State} {m : MethodId} {args : Array Value} {below : List Frame} {meth : Method} {c : Code} {Q : State → Prop} {G : va_G} {Y : Nat → ClassId} {tF : Nat} {A : Nat → Prop} (h_t : Nat) (B_t : Nat → Nat) (t_thrown : Int32) (t_n : Int32) (t_modulus : Int32) (t_rows : Int32) (t_strands : Int32) (t_letters : Int32) (t_listedMany : Int32) (t_listN : Int32) (t_listWhat : Int32) {K : Int32 → Int32 → Prop} (hx : p.tables.exec = Jvm.exec) (hb : c.code = cX11_refuse) (hml : c.maxLocals = 1) (hown : s.vm.findClass RX11 = some m.cls) (hts : ∀ w ∈ wsX11_refuse, w.before args s = true) (hK : va_K G vwCl (tyL Y) s) (hE : Ev A tF s) (hA : ∀ q, s.heap.size ≤ q → A q) (hRf : 0 ≤ R.frames) (hRl : 0 ≤ R.locals) (hret : ∀ (r : Int32) (t_thrown : Int32) (H : Heap) (locs : List Loc) (ls : Array Slot) (pc : Nat), va_P G vwCl (w_X11_refuse Y h_t B_t t_thrown t_n t_modulus t_rows t_strands t_letters t_listedMany t_listN t_listWhat) H → va_D A (w_X11_refuse Y h_t B_t t_thrown t_n t_modulus t_rows t_strands t_letters t_listedMany t_listN t_listWhat) → va_S A s.heap H locs → K r t_thrown → decode cX11_refuse pc = .ok (.ireturn, 1) → W p l e R s m args below meth c H locs 0 0 Q (F0 m pc ls [.int r])) (hP : va_P G vwCl (w_X11_refuse Y h_t B_t t_thrown t_n t_modulus t_rows t_strands t_letters t_listedMany t_listN t_listWhat) s.heap) (hD : va_D A (w_X11_refuse Y h_t B_t t_thrown t_n t_modulus t_rows t_strands t_letters t_listedMany t_listN t_listWhat)) (h : pX11_refuse t_thrown K) : W p l e R s m args below meth c s.heap [] 0 0 Q (entryFrame m ([.ref h_t] : List Value).toArray 1) := by
  have inX11 : ∀ w ∈ u_ws RX11 TX11 29, w ∈ wsX11_refuse := by decide +kernel
  have hf83 := hts (.fieldLink RX11 83 "RackBenchModel" "thrown" "I") (by decide +kernel)
  have hl := lv_entry ([.ref h_t]) (n := 1) (Nat.le_of_ble_eq_true rfl)
  rw [lg_entry_eq]
  generalize (lg_sl ([.ref h_t]) ++ List.replicate (1 - (lg_sl ([.ref h_t])).length) Slot.unset).toArray = ls at hl ⊢
  have hl : lv_has ls 1 [(0, .ref h_t)] := hl
  generalize hH0 : s.heap = H at hP ⊢
  have hS : va_S A s.heap H [] := by rw [← hH0]; exact va_S.rf
  clear hH0
  generalize ([] : List Loc) = locs at hS ⊢
  refine lv_aload_n hx hb dX11_refuse_0 rfl (lv_at hl 0 rfl) ?_
  refine lv_iconst (v := 1) hx hb dX11_refuse_1 (by decide) ?_
  refine va_put (D := G) (ci := 10) (v := .int (1 : Int32)) (ty := .int) (C := RX11) (T := TX11) (N := 29) hx hb hts inX11 tyX11 tyX11_ok nmX11 hown hK hP hD hS 0 rfl rfl 0 (by decide) hf83 (fun _ h9 => h9) rfl (by decide +kernel) rfl rfl (Nat.le_of_ble_eq_true rfl) dX11_refuse_2 (fun H locs hP hD hS => ?_)
  have hP : va_P G vwCl (w_X11_refuse Y h_t B_t (1 : Int32) t_n t_modulus t_rows t_strands t_letters t_listedMany t_listN t_listWhat) H := hP
  have hD : va_D A (w_X11_refuse Y h_t B_t (1 : Int32) t_n t_modulus t_rows t_strands t_letters t_listedMany t_listN t_listWhat) := hD
  refine lv_iconst (v := 0) hx hb dX11_refuse_5 (by decide) ?_
  exact hret (0 : Int32) (1 : Int32) H locs ls _ hP hD hS h dX11_refuse_6

set_option maxHeartbeats 4000000 in
set_option maxRecDepth 100000 in
theorem c_X11_refuse (l : Launch) (G : va_G) (Y : Nat → ClassId) (tF sz : Nat) (h_t : Nat) (B_t : Nat → Nat) (t_thrown : Int32) (t_n : Int32) (t_modulus : Int32) (t_rows : Int32) (t_strands : Int32) (t_letters : Int32) (t_listedMany : Int32) (t_listN : Int32) (t_listWhat : Int32) {K : Int32 → Int32 → Prop} (h : pX11_refuse t_thrown K) : Met l yX11_refuse wsX11_refuse ({ frames := 0, cells := 0, slots := 0, locals := 0 }) (PcM G Y tF sz (w_X11_refuse Y h_t B_t t_thrown t_n t_modulus t_rows t_strands t_letters t_listedMany t_listN t_listWhat) [.ref h_t]) (va_Qi (fun (r : Int32) (u : Int32) => K r u) (fun u t => BM G Y (va_A (w_X11_refuse Y h_t B_t t_thrown t_n t_modulus t_rows t_strands t_letters t_listedMany t_listN t_listWhat) sz) (w_X11_refuse Y h_t B_t u t_n t_modulus t_rows t_strands t_letters t_listedMany t_listN t_listWhat) t) (va_A (w_X11_refuse Y h_t B_t t_thrown t_n t_modulus t_rows t_strands t_letters t_listedMany t_listN t_listWhat) sz)) 0 0 (va_A (w_X11_refuse Y h_t B_t t_thrown t_n t_modulus t_rows t_strands t_letters t_listedMany t_listN t_listWhat) sz) := by
  refine Met.ofW (cc := cX11_refuse) (maxL := 1) (ret := (some .int)) (by decide +kernel) rfl ?_
  intro p e s m args below meth c s₁ B hml hv
  obtain ⟨rfl, hsz, hP, hK, hD0, hE⟩ := hv
  have hts := atoms_spec (ws := wsX11_refuse) B.pre
  have hown : s.vm.findClass RX11 = some m.cls := findClass_of_methodNamed B.named
  have hlocks := B.notSynchronized
  subst hsz
  have hD := hD0.self (sz := s.heap.size)
  exact wk_X11_refuse h_t B_t t_thrown t_n t_modulus t_rows t_strands t_letters t_listedMany t_listN t_listWhat B.exec B.bytes hml hown hts hK hE (fun q h => Or.inr h) (Nat.le_refl _) (Nat.le_refl _) (fun r t_thrown H locs ls pc hP hD hS hk hd => W.iret (v := r) B.exec B.bytes B.returns (fun t ht hW => ⟨⟨r, t_thrown, rfl, hk, by rw [ht]; exact hP, va_K.moved hW.alike hK, hD⟩, hS.F ht⟩) hS.2.2 hd) hP hD h

abbrev w_X11_isThing (Y : Nat → ClassId) (h_t : Nat) (B_t : Nat → Nat) (t_thrown : Int32) (t_n : Int32) (t_modulus : Int32) (t_rows : Int32) (t_strands : Int32) (t_letters : Int32) (t_listedMany : Int32) (t_listN : Int32) (t_listWhat : Int32) : va_W := [(h_t, .inr (10, [.int t_thrown, .int t_n, .ref (B_t 2), .int t_modulus, .ref (B_t 4), .ref (B_t 5), .ref (B_t 6), .ref (B_t 7), .ref (B_t 8), .ref (B_t 9), .ref (B_t 10), .int t_rows, .ref (B_t 12), .ref (B_t 13), .ref (B_t 14), .ref (B_t 15), .ref (B_t 16), .ref (B_t 17), .ref (B_t 18), .ref (B_t 19), .int t_strands, .int t_letters, .ref (B_t 22), .ref (B_t 23), .ref (B_t 24), .ref (B_t 25), .int t_listedMany, .int t_listN, .int t_listWhat]))]

set_option maxHeartbeats 4000000 in
set_option maxRecDepth 100000 in
theorem wk_X11_isThing {p : Program} {l : Launch} {e : Env} {R : Room} {s : State} {m : MethodId} {args : Array Value} {below : List Frame} {meth : Method} {c : Code} {Q : State → Prop} {G : va_G} {Y : Nat → ClassId} {tF : Nat} {A : Nat → Prop} (h_t : Nat) (B_t : Nat → Nat) (t_thrown : Int32) (t_n : Int32) (t_modulus : Int32) (t_rows : Int32) (t_strands : Int32) (t_letters : Int32) (t_listedMany : Int32) (t_listN : Int32) (t_listWhat : Int32) (x1 : Int32) {K : Int32 → Prop} (hx : p.tables.exec = Jvm.exec) (hb : c.code = cX11_isThing) (hml : c.maxLocals = 2) (hown : s.vm.findClass RX11 = some m.cls) (hts : ∀ w ∈ wsX11_isThing, w.before args s = true) (hK : va_K G vwCl (tyL Y) s) (hE : Ev A tF s) (hA : ∀ q, s.heap.size ≤ q → A q) (hRf : 1 ≤ R.frames) (hRl : 25 ≤ R.locals) (hret : ∀ (r : Int32)  (H : Heap) (locs : List Loc) (ls : Array Slot) (pc : Nat), va_P G vwCl (w_X11_isThing Y h_t B_t t_thrown t_n t_modulus t_rows t_strands t_letters t_listedMany t_listN t_listWhat) H → va_D A (w_X11_isThing Y h_t B_t t_thrown t_n t_modulus t_rows t_strands t_letters t_listedMany t_listN t_listWhat) → va_S A s.heap H locs → zb r → K r → decode cX11_isThing pc = .ok (.ireturn, 1) → W p l e R s m args below meth c H locs 0 0 Q (F0 m pc ls [.int r])) (hP : va_P G vwCl (w_X11_isThing Y h_t B_t t_thrown t_n t_modulus t_rows t_strands t_letters t_listedMany t_listN t_listWhat) s.heap) (hD : va_D A (w_X11_isThing Y h_t B_t t_thrown t_n t_modulus t_rows t_strands t_letters t_listedMany t_listN t_listWhat)) (h : pX11_isThing t_n x1 K) : W p l e R s m args below meth c s.heap [] 0 0 Q (entryFrame m ([.ref h_t, .int x1] : List Value).toArray 2) := by
  have inX11 : ∀ w ∈ u_ws RX11 TX11 29, w ∈ wsX11_isThing := by decide +kernel
  have hf9 := hts (.fieldLink RX11 9 "RackBenchModel" "n" "I") (by decide +kernel)
  have hl := lv_entry ([.ref h_t, .int x1]) (n := 2) (Nat.le_of_ble_eq_true rfl)
  rw [lg_entry_eq]
  generalize (lg_sl ([.ref h_t, .int x1]) ++ List.replicate (2 - (lg_sl ([.ref h_t, .int x1])).length) Slot.unset).toArray = ls at hl ⊢
  have hl : lv_has ls 2 [(0, .ref h_t), (1, .int x1)] := hl
  generalize hH0 : s.heap = H at hP ⊢
  have hS : va_S A s.heap H [] := by rw [← hH0]; exact va_S.rf
  clear hH0
  generalize ([] : List Loc) = locs at hS ⊢
  refine lv_iload_n hx hb dX11_isThing_0 rfl (lv_at hl 1 rfl) ?_
  refine lv_i2l hx hb dX11_isThing_1 rfl ?_
  refine lv_lconst (v := 0) hx hb dX11_isThing_2 (by decide) ?_
  refine lv_aload_n hx hb dX11_isThing_3 rfl (lv_at hl 0 rfl) ?_
  refine va_get (D := G) (ci := 10) (v := .int t_n) (C := RX11) (T := TX11) (N := 29) hx hb hts inX11 hown hK hP 0 rfl rfl 1 (by decide) hf9 (fun _ h9 => h9) rfl dX11_isThing_4 ?_
  refine lv_iconst (v := 1) hx hb dX11_isThing_7 (by decide) ?_
  refine lv_isub hx hb dX11_isThing_8 ?_
  refine lv_i2l hx hb dX11_isThing_9 rfl ?_
  refine mc_iS ⟨hx, hb, hml, hown, hts⟩ hK hE hA hP hD hS (c_X11_in l G Y tF H.size (Int32.toInt64 x1) (0 : Int64) (Int32.toInt64 (t_n - (1 : Int32))) h) (va_cwS 3 hts gX11_isThing_X11_in rfl rfl rfl (by decide +kernel) ⟨Nat.le_trans (by decide) hRf, Nat.le_trans (by decide) hRl⟩) (fun u => (w_X11_isThing Y h_t B_t t_thrown t_n t_modulus t_rows t_strands t_letters t_listedMany t_listN t_listWhat)) [] [0] [0] rfl rfl rfl rfl (by decide) (fun _ => rfl) rfl rfl hl.1 rfl (Nat.le_of_ble_eq_true rfl) dX11_isThing_10 (fun r10 u H locs h hP hD hS => ?_)
  try dsimp only at h
  have hP : va_P G vwCl (w_X11_isThing Y h_t B_t t_thrown t_n t_modulus t_rows t_strands t_letters t_listedMany t_listN t_listWhat) H := hP
  have hD : va_D A (w_X11_isThing Y h_t B_t t_thrown t_n t_modulus t_rows t_strands t_letters t_listedMany t_listN t_listWhat) := hD
  obtain ⟨hz, h⟩ := h
  exact hret r10  H locs ls _ hP hD hS hz h dX11_isThing_13

set_option maxHeartbeats 4000000 in
set_option maxRecDepth 100000 in
theorem c_X11_isThing (l : Launch) (G : va_G) (Y : Nat → ClassId) (tF sz : Nat) (h_t : Nat) (B_t : Nat → Nat) (t_thrown : Int32) (t_n : Int32) (t_modulus : Int32) (t_rows : Int32) (t_strands : Int32) (t_letters : Int32) (t_listedMany : Int32) (t_listN : Int32) (t_listWhat : Int32) (x1 : Int32) {K : Int32 → Prop} (h : pX11_isThing t_n x1 K) : Met l yX11_isThing wsX11_isThing ({ frames := 1, cells := 0, slots := 0, locals := 25 }) (PcM G Y tF sz (w_X11_isThing Y h_t B_t t_thrown t_n t_modulus t_rows t_strands t_letters t_listedMany t_listN t_listWhat) [.ref h_t, .int x1]) (va_Qi (fun (r : Int32) (u : Unit) => K r ) (fun u t => BM G Y (va_A (w_X11_isThing Y h_t B_t t_thrown t_n t_modulus t_rows t_strands t_letters t_listedMany t_listN t_listWhat) sz) (w_X11_isThing Y h_t B_t t_thrown t_n t_modulus t_rows t_strands t_letters t_listedMany t_listN t_listWhat) t) (va_A (w_X11_isThing Y h_t B_t t_thrown t_n t_modulus t_rows t_strands t_letters t_listedMany t_listN t_listWhat) sz)) 0 0 (va_A (w_X11_isThing Y h_t B_t t_thrown t_n t_modulus t_rows t_strands t_letters t_listedMany t_listN t_listWhat) sz) := by
  refine Met.ofW (cc := cX11_isThing) (maxL := 2) (ret := (some .boolean)) (by decide +kernel) rfl ?_
  intro p e s m args below meth c s₁ B hml hv
  obtain ⟨rfl, hsz, hP, hK, hD0, hE⟩ := hv
  have hts := atoms_spec (ws := wsX11_isThing) B.pre
  have hown : s.vm.findClass RX11 = some m.cls := findClass_of_methodNamed B.named
  have hlocks := B.notSynchronized
  subst hsz
  have hD := hD0.self (sz := s.heap.size)
  exact wk_X11_isThing h_t B_t t_thrown t_n t_modulus t_rows t_strands t_letters t_listedMany t_listN t_listWhat x1 B.exec B.bytes hml hown hts hK hE (fun q h => Or.inr h) (Nat.le_refl _) (Nat.le_refl _) (fun r  H locs ls pc hP hD hS hz hk hd => W.zret (v := r) B.exec B.bytes B.returns hz.n (fun t ht hW => ⟨⟨r, (), rfl, hk, by rw [ht]; exact hP, va_K.moved hW.alike hK, hD⟩, hS.F ht⟩) hS.2.2 hd) hP hD h

abbrev w_X11_by (Y : Nat → ClassId) (h_t : Nat) (B_t : Nat → Nat) (t_thrown : Int32) (t_n : Int32) (t_modulus : Int32) (t_rows : Int32) (t_strands : Int32) (t_letters : Int32) (t_listedMany : Int32) (t_listN : Int32) (t_listWhat : Int32) (t_table : Nat → Int32) : va_W := [(h_t, .inr (10, [.int t_thrown, .int t_n, .ref (B_t 2), .int t_modulus, .ref (B_t 4), .ref (B_t 5), .ref (B_t 6), .ref (B_t 7), .ref (B_t 8), .ref (B_t 9), .ref (B_t 10), .int t_rows, .ref (B_t 12), .ref (B_t 13), .ref (B_t 14), .ref (B_t 15), .ref (B_t 16), .ref (B_t 17), .ref (B_t 18), .ref (B_t 19), .int t_strands, .int t_letters, .ref (B_t 22), .ref (B_t 23), .ref (B_t 24), .ref (B_t 25), .int t_listedMany, .int t_listN, .int t_listWhat])), ((B_t 2), .inl (Y 0, 64, .inl t_table))]

set_option maxHeartbeats 4000000 in
set_option maxRecDepth 100000 in
theorem wk_X11_by {p : Program} {l : Launch} {e : Env} {R : Room} {s : State} {m : MethodId} {args : Array Value} {below : List Frame} {meth : Method} {c : Code} {Q : State → Prop} {G : va_G} {Y : Nat → ClassId} {tF : Nat} {A : Nat → Prop} (h_t : Nat) (B_t : Nat → Nat) (t_thrown : Int32) (t_n : Int32) (t_modulus : Int32) (t_rows : Int32) (t_strands : Int32) (t_letters : Int32) (t_listedMany : Int32) (t_listN : Int32) (t_listWhat : Int32) (t_table : Nat → Int32) (x1 : Int32) (x2 : Int32) {K : Int32 → Prop} (hx : p.tables.exec = Jvm.exec) (hb : c.code = cX11_by) (hml : c.maxLocals = 3) (hown : s.vm.findClass RX11 = some m.cls) (hts : ∀ w ∈ wsX11_by, w.before args s = true) (hK : va_K G vwCl (tyL Y) s) (hE : Ev A tF s) (hA : ∀ q, s.heap.size ≤ q → A q) (hRf : 0 ≤ R.frames) (hRl : 0 ≤ R.locals) (hret : ∀ (r : Int32)  (H : Heap) (locs : List Loc) (ls : Array Slot) (pc : Nat), va_P G vwCl (w_X11_by Y h_t B_t t_thrown t_n t_modulus t_rows t_strands t_letters t_listedMany t_listN t_listWhat t_table) H → va_D A (w_X11_by Y h_t B_t t_thrown t_n t_modulus t_rows t_strands t_letters t_listedMany t_listN t_listWhat t_table) → va_S A s.heap H locs → K r → decode cX11_by pc = .ok (.ireturn, 1) → W p l e R s m args below meth c H locs 0 0 Q (F0 m pc ls [.int r])) (hP : va_P G vwCl (w_X11_by Y h_t B_t t_thrown t_n t_modulus t_rows t_strands t_letters t_listedMany t_listN t_listWhat t_table) s.heap) (hD : va_D A (w_X11_by Y h_t B_t t_thrown t_n t_modulus t_rows t_strands t_letters t_listedMany t_listN t_listWhat t_table)) (h : pX11_by t_table x1 x2 K) : W p l e R s m args below meth c s.heap [] 0 0 Q (entryFrame m ([.ref h_t, .int x1, .int x2] : List Value).toArray 3) := by
  have inX11 : ∀ w ∈ u_ws RX11 TX11 29, w ∈ wsX11_by := by decide +kernel
  have hf13 := hts (.fieldLink RX11 13 "RackBenchModel" "table" "[I") (by decide +kernel)
  have hl := lv_entry ([.ref h_t, .int x1, .int x2]) (n := 3) (Nat.le_of_ble_eq_true rfl)
  rw [lg_entry_eq]
  generalize (lg_sl ([.ref h_t, .int x1, .int x2]) ++ List.replicate (3 - (lg_sl ([.ref h_t, .int x1, .int x2])).length) Slot.unset).toArray = ls at hl ⊢
  have hl : lv_has ls 3 [(0, .ref h_t), (1, .int x1), (2, .int x2)] := hl
  generalize hH0 : s.heap = H at hP ⊢
  have hS : va_S A s.heap H [] := by rw [← hH0]; exact va_S.rf
  clear hH0
  generalize ([] : List Loc) = locs at hS ⊢
  refine lv_aload_n hx hb dX11_by_0 rfl (lv_at hl 0 rfl) ?_
  refine va_get (D := G) (ci := 10) (v := .ref (B_t 2)) (C := RX11) (T := TX11) (N := 29) hx hb hts inX11 hown hK hP 0 rfl rfl 2 (by decide) hf13 (fun _ h9 => h9) rfl dX11_by_1 ?_
  refine lv_bipush (v := 8) hx hb dX11_by_4 (by decide) ?_
  refine lv_iload_n hx hb dX11_by_6 rfl (lv_at hl 1 rfl) ?_
  refine lv_imul hx hb dX11_by_7 ?_
  refine lv_iload_n hx hb dX11_by_8 rfl (lv_at hl 2 rfl) ?_
  refine lv_iadd hx hb dX11_by_9 ?_
  obtain ⟨hin, h⟩ := h
  refine va_iald hx hb hK hP 1 0 rfl rfl hin dX11_by_10 ?_
  exact hret (t_table (Int32.toNatClampNeg (((8 : Int32) * x1) + x2)))  H locs ls _ hP hD hS h dX11_by_11

set_option maxHeartbeats 4000000 in
set_option maxRecDepth 100000 in
theorem c_X11_by (l : Launch) (G : va_G) (Y : Nat → ClassId) (tF sz : Nat) (h_t : Nat) (B_t : Nat → Nat) (t_thrown : Int32) (t_n : Int32) (t_modulus : Int32) (t_rows : Int32) (t_strands : Int32) (t_letters : Int32) (t_listedMany : Int32) (t_listN : Int32) (t_listWhat : Int32) (t_table : Nat → Int32) (x1 : Int32) (x2 : Int32) {K : Int32 → Prop} (h : pX11_by t_table x1 x2 K) : Met l yX11_by wsX11_by ({ frames := 0, cells := 0, slots := 0, locals := 0 }) (PcM G Y tF sz (w_X11_by Y h_t B_t t_thrown t_n t_modulus t_rows t_strands t_letters t_listedMany t_listN t_listWhat t_table) [.ref h_t, .int x1, .int x2]) (va_Qi (fun (r : Int32) (u : Unit) => K r ) (fun u t => BM G Y (va_A (w_X11_by Y h_t B_t t_thrown t_n t_modulus t_rows t_strands t_letters t_listedMany t_listN t_listWhat t_table) sz) (w_X11_by Y h_t B_t t_thrown t_n t_modulus t_rows t_strands t_letters t_listedMany t_listN t_listWhat t_table) t) (va_A (w_X11_by Y h_t B_t t_thrown t_n t_modulus t_rows t_strands t_letters t_listedMany t_listN t_listWhat t_table) sz)) 0 0 (va_A (w_X11_by Y h_t B_t t_thrown t_n t_modulus t_rows t_strands t_letters t_listedMany t_listN t_listWhat t_table) sz) := by
  refine Met.ofW (cc := cX11_by) (maxL := 3) (ret := (some .int)) (by decide +kernel) rfl ?_
  intro p e s m args below meth c s₁ B hml hv
  obtain ⟨rfl, hsz, hP, hK, hD0, hE⟩ := hv
  have hts := atoms_spec (ws := wsX11_by) B.pre
  have hown : s.vm.findClass RX11 = some m.cls := findClass_of_methodNamed B.named
  have hlocks := B.notSynchronized
  subst hsz
  have hD := hD0.self (sz := s.heap.size)
  exact wk_X11_by h_t B_t t_thrown t_n t_modulus t_rows t_strands t_letters t_listedMany t_listN t_listWhat t_table x1 x2 B.exec B.bytes hml hown hts hK hE (fun q h => Or.inr h) (Nat.le_refl _) (Nat.le_refl _) (fun r  H locs ls pc hP hD hS hk hd => W.iret (v := r) B.exec B.bytes B.returns (fun t ht hW => ⟨⟨r, (), rfl, hk, by rw [ht]; exact hP, va_K.moved hW.alike hK, hD⟩, hS.F ht⟩) hS.2.2 hd) hP hD h

abbrev w_X11_straight (Y : Nat → ClassId) (h_t : Nat) (B_t : Nat → Nat) (t_thrown : Int32) (t_n : Int32) (t_modulus : Int32) (t_rows : Int32) (t_strands : Int32) (t_letters : Int32) (t_listedMany : Int32) (t_listN : Int32) (t_listWhat : Int32) (t_twists : Nat → Int32) : va_W := [(h_t, .inr (10, [.int t_thrown, .int t_n, .ref (B_t 2), .int t_modulus, .ref (B_t 4), .ref (B_t 5), .ref (B_t 6), .ref (B_t 7), .ref (B_t 8), .ref (B_t 9), .ref (B_t 10), .int t_rows, .ref (B_t 12), .ref (B_t 13), .ref (B_t 14), .ref (B_t 15), .ref (B_t 16), .ref (B_t 17), .ref (B_t 18), .ref (B_t 19), .int t_strands, .int t_letters, .ref (B_t 22), .ref (B_t 23), .ref (B_t 24), .ref (B_t 25), .int t_listedMany, .int t_listN, .int t_listWhat])), ((B_t 4), .inl (Y 0, 64, .inl t_twists))]

set_option maxHeartbeats 4000000 in
set_option maxRecDepth 100000 in
theorem wk_X11_straight {p : Program} {l : Launch} {e : Env} {R : Room} {s : State} {m : MethodId} {args : Array Value} {below : List Frame} {meth : Method} {c : Code} {Q : State → Prop} {G : va_G} {Y : Nat → ClassId} {tF : Nat} {A : Nat → Prop} (h_t : Nat) (B_t : Nat → Nat) (t_thrown : Int32) (t_n : Int32) (t_modulus : Int32) (t_rows : Int32) (t_strands : Int32) (t_letters : Int32) (t_listedMany : Int32) (t_listN : Int32) (t_listWhat : Int32) (t_twists : Nat → Int32) {K : (Nat → Int32) → Prop} (hx : p.tables.exec = Jvm.exec) (hb : c.code = cX11_straight) (hml : c.maxLocals = 2) (hown : s.vm.findClass RX11 = some m.cls) (hts : ∀ w ∈ wsX11_straight, w.before args s = true) (hK : va_K G vwCl (tyL Y) s) (hE : Ev A tF s) (hA : ∀ q, s.heap.size ≤ q → A q) (hRf : 0 ≤ R.frames) (hRl : 0 ≤ R.locals) (hret : ∀ (t_twists : Nat → Int32) (H : Heap) (locs : List Loc) (ls : Array Slot) (pc : Nat), va_P G vwCl (w_X11_straight Y h_t B_t t_thrown t_n t_modulus t_rows t_strands t_letters t_listedMany t_listN t_listWhat t_twists) H → va_D A (w_X11_straight Y h_t B_t t_thrown t_n t_modulus t_rows t_strands t_letters t_listedMany t_listN t_listWhat t_twists) → va_S A s.heap H locs → K t_twists → decode cX11_straight pc = .ok (.return_, 1) → W p l e R s m args below meth c H locs 0 0 Q (F0 m pc ls [])) (hP : va_P G vwCl (w_X11_straight Y h_t B_t t_thrown t_n t_modulus t_rows t_strands t_letters t_listedMany t_listN t_listWhat t_twists) s.heap) (hD : va_D A (w_X11_straight Y h_t B_t t_thrown t_n t_modulus t_rows t_strands t_letters t_listedMany t_listN t_listWhat t_twists)) (h : pX11_straight t_twists K) : W p l e R s m args below meth c s.heap [] 0 0 Q (entryFrame m ([.ref h_t] : List Value).toArray 2) := by
  have inX11 : ∀ w ∈ u_ws RX11 TX11 29, w ∈ wsX11_straight := by decide +kernel
  have hf20 := hts (.fieldLink RX11 20 "RackBenchModel" "twists" "[I") (by decide +kernel)
  have hl := lv_entry ([.ref h_t]) (n := 2) (Nat.le_of_ble_eq_true rfl)
  rw [lg_entry_eq]
  generalize (lg_sl ([.ref h_t]) ++ List.replicate (2 - (lg_sl ([.ref h_t])).length) Slot.unset).toArray = ls at hl ⊢
  have hl : lv_has ls 2 [(0, .ref h_t)] := hl
  generalize hH0 : s.heap = H at hP ⊢
  have hS : va_S A s.heap H [] := by rw [← hH0]; exact va_S.rf
  clear hH0
  generalize ([] : List Loc) = locs at hS ⊢
  refine lv_iconst (v := 0) hx hb dX11_straight_0 (by decide) ?_
  refine lv_istore_n (lv' := [(1, .int (0 : Int32)), (0, .ref h_t)]) hx hb dX11_straight_1 rfl hl (by decide) rfl (fun ls hl => ?_)
  obtain ⟨I2, m2, hI2, hB2⟩ := h
  have L2 : ∀  (I2 : Int32 → (Nat → Int32) → Prop) (m2 : Int32 → (Nat → Int32) → Nat), (∀ (x1 : Int32) (t_twists : Nat → Int32), I2 x1 t_twists → pX11_straight_2 K x1 t_twists (fun x1' t_twists' => I2 x1' t_twists' ∧ m2 x1' t_twists' < m2 x1 t_twists)) → ∀ (n : Nat) (x1 : Int32) (t_twists : Nat → Int32) (H : Heap) (locs : List Loc) (ls : Array Slot), I2 x1 t_twists → m2 x1 t_twists < n → va_P G vwCl (w_X11_straight Y h_t B_t t_thrown t_n t_modulus t_rows t_strands t_letters t_listedMany t_listN t_listWhat t_twists) H → va_D A (w_X11_straight Y h_t B_t t_thrown t_n t_modulus t_rows t_strands t_letters t_listedMany t_listN t_listWhat t_twists) → va_S A s.heap H locs → lv_has ls 2 [(0, .ref h_t), (1, .int x1)] → W p l e R s m args below meth c H locs 0 0 Q (F0 m 2 ls []) := by
    intro  I2 m2 hB2 n
    induction n with
    | zero => intro x1 t_twists H locs ls _ hm; exact absurd hm (Nat.not_lt_zero _)
    | succ n ih =>
      intro x1 t_twists H locs ls hI hm hP hD hS hl
      obtain ⟨R2, h, rec2⟩ : ∃ R2 : Int32 → (Nat → Int32) → Prop, pX11_straight_2 K x1 t_twists R2 ∧ ∀ (x1 : Int32) (t_twists : Nat → Int32) (H : Heap) (locs : List Loc) (ls : Array Slot), R2 x1 t_twists → va_P G vwCl (w_X11_straight Y h_t B_t t_thrown t_n t_modulus t_rows t_strands t_letters t_listedMany t_listN t_listWhat t_twists) H → va_D A (w_X11_straight Y h_t B_t t_thrown t_n t_modulus t_rows t_strands t_letters t_listedMany t_listN t_listWhat t_twists) → va_S A s.heap H locs → lv_has ls 2 [(0, .ref h_t), (1, .int x1)] → W p l e R s m args below meth c H locs 0 0 Q (F0 m 2 ls []) := ⟨_, hB2 x1 t_twists hI, fun x1 t_twists H locs ls hh hP hD hS hl => ih x1 t_twists H locs ls hh.1 (Nat.lt_of_lt_of_le hh.2 (Nat.le_of_lt_succ hm)) hP hD hS hl⟩
      refine lv_iload_n hx hb dX11_straight_2 rfl (lv_at hl 1 rfl) ?_
      refine lv_bipush (v := 64) hx hb dX11_straight_3 (by decide) ?_
      obtain ⟨ht, hf⟩ := h
      refine lv_icmp_ge (tgt := 21) hx hb dX11_straight_5 (by decide) (fun c9 => ?_) (fun c9 => ?_)
      · have h := ht c9
        exact hret t_twists H locs ls _ hP hD hS h dX11_straight_21
      · have h := hf c9
        refine lv_aload_n hx hb dX11_straight_8 rfl (lv_at hl 0 rfl) ?_
        refine va_get (D := G) (ci := 10) (v := .ref (B_t 4)) (C := RX11) (T := TX11) (N := 29) hx hb hts inX11 hown hK hP 0 rfl rfl 4 (by decide) hf20 (fun _ h9 => h9) rfl dX11_straight_9 ?_
        refine lv_iload_n hx hb dX11_straight_12 rfl (lv_at hl 1 rfl) ?_
        refine lv_iconst (v := 0) hx hb dX11_straight_13 (by decide) ?_
        obtain ⟨hin, h⟩ := h
        refine va_iast hx hb hK hP hD hS 1 0 rfl rfl hin dX11_straight_14 (fun H locs hP hD hS => ?_)
        have hP : va_P G vwCl (w_X11_straight Y h_t B_t t_thrown t_n t_modulus t_rows t_strands t_letters t_listedMany t_listN t_listWhat (upd t_twists (Int32.toNatClampNeg x1) (0 : Int32))) H := hP
        have hD : va_D A (w_X11_straight Y h_t B_t t_thrown t_n t_modulus t_rows t_strands t_letters t_listedMany t_listN t_listWhat (upd t_twists (Int32.toNatClampNeg x1) (0 : Int32))) := hD
        refine lv_iinc (v := (x1 + 1)) (lv' := [(1, .int (x1 + 1)), (0, .ref h_t)]) hx hb dX11_straight_15 hl (k := 1) rfl rfl (by decide) rfl (fun ls hl => ?_)
        refine lv_goto (tgt := 2) hx hb dX11_straight_18 (by decide) ?_
        exact rec2 (x1 + 1) (upd t_twists (Int32.toNatClampNeg x1) (0 : Int32)) H locs ls h hP hD hS (lv_sub hl [1, 0] rfl)
  exact L2  I2 m2 hB2 _ (0 : Int32) t_twists H locs ls hI2 (Nat.lt_succ_self _) hP hD hS (lv_sub hl [1, 0] rfl)

set_option maxHeartbeats 4000000 in
set_option maxRecDepth 100000 in
theorem c_X11_straight (l : Launch) (G : va_G) (Y : Nat → ClassId) (tF sz : Nat) (h_t : Nat) (B_t : Nat → Nat) (t_thrown : Int32) (t_n : Int32) (t_modulus : Int32) (t_rows : Int32) (t_strands : Int32) (t_letters : Int32) (t_listedMany : Int32) (t_listN : Int32) (t_listWhat : Int32) (t_twists : Nat → Int32) {K : (Nat → Int32) → Prop} (h : pX11_straight t_twists K) : Met l yX11_straight wsX11_straight ({ frames := 0, cells := 0, slots := 0, locals := 0 }) (PcM G Y tF sz (w_X11_straight Y h_t B_t t_thrown t_n t_modulus t_rows t_strands t_letters t_listedMany t_listN t_listWhat t_twists) [.ref h_t]) (va_Qv (fun u : (Nat → Int32) => K u) (fun u t => BM G Y (va_A (w_X11_straight Y h_t B_t t_thrown t_n t_modulus t_rows t_strands t_letters t_listedMany t_listN t_listWhat t_twists) sz) (w_X11_straight Y h_t B_t t_thrown t_n t_modulus t_rows t_strands t_letters t_listedMany t_listN t_listWhat u) t) (va_A (w_X11_straight Y h_t B_t t_thrown t_n t_modulus t_rows t_strands t_letters t_listedMany t_listN t_listWhat t_twists) sz)) 0 0 (va_A (w_X11_straight Y h_t B_t t_thrown t_n t_modulus t_rows t_strands t_letters t_listedMany t_listN t_listWhat t_twists) sz) := by
  refine Met.ofW (cc := cX11_straight) (maxL := 2) (ret := none) (by decide +kernel) rfl ?_
  intro p e s m args below meth c s₁ B hml hv
  obtain ⟨rfl, hsz, hP, hK, hD0, hE⟩ := hv
  have hts := atoms_spec (ws := wsX11_straight) B.pre
  have hown : s.vm.findClass RX11 = some m.cls := findClass_of_methodNamed B.named
  have hlocks := B.notSynchronized
  subst hsz
  have hD := hD0.self (sz := s.heap.size)
  exact wk_X11_straight h_t B_t t_thrown t_n t_modulus t_rows t_strands t_letters t_listedMany t_listN t_listWhat t_twists B.exec B.bytes hml hown hts hK hE (fun q h => Or.inr h) (Nat.le_refl _) (Nat.le_refl _) (fun t_twists H locs ls pc hP hD hS hk hd => W.vret B.exec B.bytes B.returns (fun t ht hW => ⟨⟨t_twists, rfl, hk, by rw [ht]; exact hP, va_K.moved hW.alike hK, hD⟩, hS.F ht⟩) hS.2.2 hd) hP hD h

abbrev w_X11_sized (Y : Nat → ClassId) (h_t : Nat) (B_t : Nat → Nat) (t_thrown : Int32) (t_n : Int32) (t_modulus : Int32) (t_rows : Int32) (t_strands : Int32) (t_letters : Int32) (t_listedMany : Int32) (t_listN : Int32) (t_listWhat : Int32) (t_twists : Nat → Int32) : va_W := [(h_t, .inr (10, [.int t_thrown, .int t_n, .ref (B_t 2), .int t_modulus, .ref (B_t 4), .ref (B_t 5), .ref (B_t 6), .ref (B_t 7), .ref (B_t 8), .ref (B_t 9), .ref (B_t 10), .int t_rows, .ref (B_t 12), .ref (B_t 13), .ref (B_t 14), .ref (B_t 15), .ref (B_t 16), .ref (B_t 17), .ref (B_t 18), .ref (B_t 19), .int t_strands, .int t_letters, .ref (B_t 22), .ref (B_t 23), .ref (B_t 24), .ref (B_t 25), .int t_listedMany, .int t_listN, .int t_listWhat])), ((B_t 4), .inl (Y 0, 64, .inl t_twists))]

set_option maxHeartbeats 4000000 in
set_option maxRecDepth 100000 in
theorem wk_X11_sized {p : Program} {l : Launch} {e : Env} {R : Room} {s : State} {m : MethodId} {args : Array Value} {below : List Frame} {meth : Method} {c : Code} {Q : State → Prop} {G : va_G} {Y : Nat → ClassId} {tF : Nat} {A : Nat → Prop} (h_t : Nat) (B_t : Nat → Nat) (t_thrown : Int32) (t_n : Int32) (t_modulus : Int32) (t_rows : Int32) (t_strands : Int32) (t_letters : Int32) (t_listedMany : Int32) (t_listN : Int32) (t_listWhat : Int32) (t_twists : Nat → Int32) (x1 : Int32) {K : Int32 → (Nat → Int32) → Prop} (hx : p.tables.exec = Jvm.exec) (hb : c.code = cX11_sized) (hml : c.maxLocals = 2) (hown : s.vm.findClass RX11 = some m.cls) (hts : ∀ w ∈ wsX11_sized, w.before args s = true) (hK : va_K G vwCl (tyL Y) s) (hE : Ev A tF s) (hA : ∀ q, s.heap.size ≤ q → A q) (hRf : 1 ≤ R.frames) (hRl : 21 ≤ R.locals) (hret : ∀ (t_n : Int32) (t_twists : Nat → Int32) (H : Heap) (locs : List Loc) (ls : Array Slot) (pc : Nat), va_P G vwCl (w_X11_sized Y h_t B_t t_thrown t_n t_modulus t_rows t_strands t_letters t_listedMany t_listN t_listWhat t_twists) H → va_D A (w_X11_sized Y h_t B_t t_thrown t_n t_modulus t_rows t_strands t_letters t_listedMany t_listN t_listWhat t_twists) → va_S A s.heap H locs → K t_n t_twists → decode cX11_sized pc = .ok (.return_, 1) → W p l e R s m args below meth c H locs 0 0 Q (F0 m pc ls [])) (hP : va_P G vwCl (w_X11_sized Y h_t B_t t_thrown t_n t_modulus t_rows t_strands t_letters t_listedMany t_listN t_listWhat t_twists) s.heap) (hD : va_D A (w_X11_sized Y h_t B_t t_thrown t_n t_modulus t_rows t_strands t_letters t_listedMany t_listN t_listWhat t_twists)) (h : pX11_sized t_n t_twists x1 K) : W p l e R s m args below meth c s.heap [] 0 0 Q (entryFrame m ([.ref h_t, .int x1] : List Value).toArray 2) := by
  have inX11 : ∀ w ∈ u_ws RX11 TX11 29, w ∈ wsX11_sized := by decide +kernel
  have hf9 := hts (.fieldLink RX11 9 "RackBenchModel" "n" "I") (by decide +kernel)
  have hl := lv_entry ([.ref h_t, .int x1]) (n := 2) (Nat.le_of_ble_eq_true rfl)
  rw [lg_entry_eq]
  generalize (lg_sl ([.ref h_t, .int x1]) ++ List.replicate (2 - (lg_sl ([.ref h_t, .int x1])).length) Slot.unset).toArray = ls at hl ⊢
  have hl : lv_has ls 2 [(0, .ref h_t), (1, .int x1)] := hl
  generalize hH0 : s.heap = H at hP ⊢
  have hS : va_S A s.heap H [] := by rw [← hH0]; exact va_S.rf
  clear hH0
  generalize ([] : List Loc) = locs at hS ⊢
  refine lv_aload_n hx hb dX11_sized_0 rfl (lv_at hl 0 rfl) ?_
  refine mc_vV ⟨hx, hb, hml, hown, hts⟩ hK hE hA hP hD hS (c_X11_straight l G Y tF H.size h_t B_t t_thrown t_n t_modulus t_rows t_strands t_letters t_listedMany t_listN t_listWhat t_twists h) (cwV 0 hts gX11_sized_X11_straight rfl rfl rfl (by decide +kernel) ⟨Nat.le_trans (by decide) hRf, Nat.le_trans (by decide) hRl⟩) (fun u => (w_X11_sized Y h_t B_t t_thrown t_n t_modulus t_rows t_strands t_letters t_listedMany t_listN t_listWhat u)) [0, 1] [] [0, 1] rfl rfl rfl rfl (by decide) (fun _ => rfl) rfl 0 10 rfl rfl rfl rfl hl.1 rfl (Nat.le_of_ble_eq_true rfl) dX11_sized_1 (fun u H locs h hP hD hS => ?_)
  obtain ⟨t_twists_1, rfl⟩ : ∃ z, z = u := ⟨_, rfl⟩
  try dsimp only at h
  have hP : va_P G vwCl (w_X11_sized Y h_t B_t t_thrown t_n t_modulus t_rows t_strands t_letters t_listedMany t_listN t_listWhat t_twists_1) H := hP
  have hD : va_D A (w_X11_sized Y h_t B_t t_thrown t_n t_modulus t_rows t_strands t_letters t_listedMany t_listN t_listWhat t_twists_1) := hD
  refine lv_aload_n hx hb dX11_sized_4 rfl (lv_at hl 0 rfl) ?_
  refine lv_iload_n hx hb dX11_sized_5 rfl (lv_at hl 1 rfl) ?_
  refine va_put (D := G) (ci := 10) (v := .int x1) (ty := .int) (C := RX11) (T := TX11) (N := 29) hx hb hts inX11 tyX11 tyX11_ok nmX11 hown hK hP hD hS 0 rfl rfl 1 (by decide) hf9 (fun _ h9 => h9) rfl (by decide +kernel) rfl rfl (Nat.le_of_ble_eq_true rfl) dX11_sized_6 (fun H locs hP hD hS => ?_)
  have hP : va_P G vwCl (w_X11_sized Y h_t B_t t_thrown x1 t_modulus t_rows t_strands t_letters t_listedMany t_listN t_listWhat t_twists_1) H := hP
  have hD : va_D A (w_X11_sized Y h_t B_t t_thrown x1 t_modulus t_rows t_strands t_letters t_listedMany t_listN t_listWhat t_twists_1) := hD
  exact hret x1 t_twists_1 H locs ls _ hP hD hS h dX11_sized_9

set_option maxHeartbeats 4000000 in
set_option maxRecDepth 100000 in
theorem c_X11_sized (l : Launch) (G : va_G) (Y : Nat → ClassId) (tF sz : Nat) (h_t : Nat) (B_t : Nat → Nat) (t_thrown : Int32) (t_n : Int32) (t_modulus : Int32) (t_rows : Int32) (t_strands : Int32) (t_letters : Int32) (t_listedMany : Int32) (t_listN : Int32) (t_listWhat : Int32) (t_twists : Nat → Int32) (x1 : Int32) {K : Int32 → (Nat → Int32) → Prop} (h : pX11_sized t_n t_twists x1 K) : Met l yX11_sized wsX11_sized ({ frames := 1, cells := 0, slots := 0, locals := 21 }) (PcM G Y tF sz (w_X11_sized Y h_t B_t t_thrown t_n t_modulus t_rows t_strands t_letters t_listedMany t_listN t_listWhat t_twists) [.ref h_t, .int x1]) (va_Qv (fun u : Int32 × (Nat → Int32) => K u.1 u.2) (fun u t => BM G Y (va_A (w_X11_sized Y h_t B_t t_thrown t_n t_modulus t_rows t_strands t_letters t_listedMany t_listN t_listWhat t_twists) sz) (w_X11_sized Y h_t B_t t_thrown u.1 t_modulus t_rows t_strands t_letters t_listedMany t_listN t_listWhat u.2) t) (va_A (w_X11_sized Y h_t B_t t_thrown t_n t_modulus t_rows t_strands t_letters t_listedMany t_listN t_listWhat t_twists) sz)) 0 0 (va_A (w_X11_sized Y h_t B_t t_thrown t_n t_modulus t_rows t_strands t_letters t_listedMany t_listN t_listWhat t_twists) sz) := by
  refine Met.ofW (cc := cX11_sized) (maxL := 2) (ret := none) (by decide +kernel) rfl ?_
  intro p e s m args below meth c s₁ B hml hv
  obtain ⟨rfl, hsz, hP, hK, hD0, hE⟩ := hv
  have hts := atoms_spec (ws := wsX11_sized) B.pre
  have hown : s.vm.findClass RX11 = some m.cls := findClass_of_methodNamed B.named
  have hlocks := B.notSynchronized
  subst hsz
  have hD := hD0.self (sz := s.heap.size)
  exact wk_X11_sized h_t B_t t_thrown t_n t_modulus t_rows t_strands t_letters t_listedMany t_listN t_listWhat t_twists x1 B.exec B.bytes hml hown hts hK hE (fun q h => Or.inr h) (Nat.le_refl _) (Nat.le_refl _) (fun t_n t_twists H locs ls pc hP hD hS hk hd => W.vret B.exec B.bytes B.returns (fun t ht hW => ⟨⟨(t_n, t_twists), rfl, hk, by rw [ht]; exact hP, va_K.moved hW.alike hK, hD⟩, hS.F ht⟩) hS.2.2 hd) hP hD h

abbrev w_X11_table (Y : Nat → ClassId) (h_t : Nat) (B_t : Nat → Nat) (t_thrown : Int32) (t_n : Int32) (t_modulus : Int32) (t_rows : Int32) (t_strands : Int32) (t_letters : Int32) (t_listedMany : Int32) (t_listN : Int32) (t_listWhat : Int32) (t_table : Nat → Int32) (t_twists : Nat → Int32) : va_W := [(h_t, .inr (10, [.int t_thrown, .int t_n, .ref (B_t 2), .int t_modulus, .ref (B_t 4), .ref (B_t 5), .ref (B_t 6), .ref (B_t 7), .ref (B_t 8), .ref (B_t 9), .ref (B_t 10), .int t_rows, .ref (B_t 12), .ref (B_t 13), .ref (B_t 14), .ref (B_t 15), .ref (B_t 16), .ref (B_t 17), .ref (B_t 18), .ref (B_t 19), .int t_strands, .int t_letters, .ref (B_t 22), .ref (B_t 23), .ref (B_t 24), .ref (B_t 25), .int t_listedMany, .int t_listN, .int t_listWhat])), ((B_t 2), .inl (Y 0, 64, .inl t_table)), ((B_t 4), .inl (Y 0, 64, .inl t_twists))]

set_option maxHeartbeats 4000000 in
set_option maxRecDepth 100000 in
theorem wk_X11_table {p : Program} {l : Launch} {e : Env} {R : Room} {s : State} {m : MethodId} {args : Array Value} {below : List Frame} {meth : Method} {c : Code} {Q : State → Prop} {G : va_G} {Y : Nat → ClassId} {tF : Nat} {A : Nat → Prop} (h_t : Nat) (B_t : Nat → Nat) (t_thrown : Int32) (t_n : Int32) (t_modulus : Int32) (t_rows : Int32) (t_strands : Int32) (t_letters : Int32) (t_listedMany : Int32) (t_listN : Int32) (t_listWhat : Int32) (t_table : Nat → Int32) (t_twists : Nat → Int32) (x1 : Int32) {K : Int32 → Int32 → Int32 → (Nat → Int32) → (Nat → Int32) → Prop} (hx : p.tables.exec = Jvm.exec) (hb : c.code = cX11_table) (hml : c.maxLocals = 4) (hown : s.vm.findClass RX11 = some m.cls) (hts : ∀ w ∈ wsX11_table, w.before args s = true) (hK : va_K G vwCl (tyL Y) s) (hE : Ev A tF s) (hA : ∀ q, s.heap.size ≤ q → A q) (hRf : 1 ≤ R.frames) (hRl : 25 ≤ R.locals) (hret : ∀ (r : Int32) (t_thrown : Int32) (t_n : Int32) (t_table : Nat → Int32) (t_twists : Nat → Int32) (H : Heap) (locs : List Loc) (ls : Array Slot) (pc : Nat), va_P G vwCl (w_X11_table Y h_t B_t t_thrown t_n t_modulus t_rows t_strands t_letters t_listedMany t_listN t_listWhat t_table t_twists) H → va_D A (w_X11_table Y h_t B_t t_thrown t_n t_modulus t_rows t_strands t_letters t_listedMany t_listN t_listWhat t_table t_twists) → va_S A s.heap H locs → zb r → K r t_thrown t_n t_table t_twists → decode cX11_table pc = .ok (.ireturn, 1) → W p l e R s m args below meth c H locs 0 0 Q (F0 m pc ls [.int r])) (hP : va_P G vwCl (w_X11_table Y h_t B_t t_thrown t_n t_modulus t_rows t_strands t_letters t_listedMany t_listN t_listWhat t_table t_twists) s.heap) (hD : va_D A (w_X11_table Y h_t B_t t_thrown t_n t_modulus t_rows t_strands t_letters t_listedMany t_listN t_listWhat t_table t_twists)) (h : pX11_table t_thrown t_n t_table t_twists x1 K) : W p l e R s m args below meth c s.heap [] 0 0 Q (entryFrame m ([.ref h_t, .int x1] : List Value).toArray 4) := by
  have inX11 : ∀ w ∈ u_ws RX11 TX11 29, w ∈ wsX11_table := by decide +kernel
  have hf13 := hts (.fieldLink RX11 13 "RackBenchModel" "table" "[I") (by decide +kernel)
  have hf83 := hts (.fieldLink RX11 83 "RackBenchModel" "thrown" "I") (by decide +kernel)
  have hf9 := hts (.fieldLink RX11 9 "RackBenchModel" "n" "I") (by decide +kernel)
  have hcL93 := hts (.constantLong RX11 93 (8)) (by decide +kernel)
  have hl := lv_entry ([.ref h_t, .int x1]) (n := 4) (Nat.le_of_ble_eq_true rfl)
  rw [lg_entry_eq]
  generalize (lg_sl ([.ref h_t, .int x1]) ++ List.replicate (4 - (lg_sl ([.ref h_t, .int x1])).length) Slot.unset).toArray = ls at hl ⊢
  have hl : lv_has ls 4 [(0, .ref h_t), (1, .int x1)] := hl
  generalize hH0 : s.heap = H at hP ⊢
  have hS : va_S A s.heap H [] := by rw [← hH0]; exact va_S.rf
  clear hH0
  generalize ([] : List Loc) = locs at hS ⊢
  refine lv_aload_n hx hb dX11_table_0 rfl (lv_at hl 0 rfl) ?_
  refine lv_iconst (v := 0) hx hb dX11_table_1 (by decide) ?_
  refine va_put (D := G) (ci := 10) (v := .int (0 : Int32)) (ty := .int) (C := RX11) (T := TX11) (N := 29) hx hb hts inX11 tyX11 tyX11_ok nmX11 hown hK hP hD hS 0 rfl rfl 0 (by decide) hf83 (fun _ h9 => h9) rfl (by decide +kernel) rfl rfl (Nat.le_of_ble_eq_true rfl) dX11_table_2 (fun H locs hP hD hS => ?_)
  have hP : va_P G vwCl (w_X11_table Y h_t B_t (0 : Int32) t_n t_modulus t_rows t_strands t_letters t_listedMany t_listN t_listWhat t_table t_twists) H := hP
  have hD : va_D A (w_X11_table Y h_t B_t (0 : Int32) t_n t_modulus t_rows t_strands t_letters t_listedMany t_listN t_listWhat t_table t_twists) := hD
  refine lv_iload_n hx hb dX11_table_5 rfl (lv_at hl 1 rfl) ?_
  refine lv_i2l hx hb dX11_table_6 rfl ?_
  refine lv_lconst (v := 1) hx hb dX11_table_7 (by decide) ?_
  refine lv_ldc2 (v := 8) hx hb hown hcL93 dX11_table_8 ?_
  refine mc_iS ⟨hx, hb, hml, hown, hts⟩ hK hE hA hP hD hS (c_X11_in l G Y tF H.size (Int32.toInt64 x1) (1 : Int64) (8 : Int64) h) (va_cwS 3 hts gX11_table_X11_in rfl rfl rfl (by decide +kernel) ⟨Nat.le_trans (by decide) hRf, Nat.le_trans (by decide) hRl⟩) (fun u => (w_X11_table Y h_t B_t (0 : Int32) t_n t_modulus t_rows t_strands t_letters t_listedMany t_listN t_listWhat t_table t_twists)) [] [0, 1, 2] [0, 1, 2] rfl rfl rfl rfl (by decide) (fun _ => rfl) rfl rfl hl.1 rfl (Nat.le_of_ble_eq_true rfl) dX11_table_11 (fun r11 u H locs h hP hD hS => ?_)
  try dsimp only at h
  have hP : va_P G vwCl (w_X11_table Y h_t B_t (0 : Int32) t_n t_modulus t_rows t_strands t_letters t_listedMany t_listN t_listWhat t_table t_twists) H := hP
  have hD : va_D A (w_X11_table Y h_t B_t (0 : Int32) t_n t_modulus t_rows t_strands t_letters t_listedMany t_listN t_listWhat t_table t_twists) := hD
  obtain ⟨ht, hf⟩ := h
  refine lv_if_ne (tgt := 19) hx hb dX11_table_14 (by decide) (fun c9 => ?_) (fun c9 => ?_)
  · have h := ht c9
    refine lv_aload_n hx hb dX11_table_19 rfl (lv_at hl 0 rfl) ?_
    refine lv_iload_n hx hb dX11_table_20 rfl (lv_at hl 1 rfl) ?_
    refine va_put (D := G) (ci := 10) (v := .int x1) (ty := .int) (C := RX11) (T := TX11) (N := 29) hx hb hts inX11 tyX11 tyX11_ok nmX11 hown hK hP hD hS 0 rfl rfl 1 (by decide) hf9 (fun _ h9 => h9) rfl (by decide +kernel) rfl rfl (Nat.le_of_ble_eq_true rfl) dX11_table_21 (fun H locs hP hD hS => ?_)
    have hP : va_P G vwCl (w_X11_table Y h_t B_t (0 : Int32) x1 t_modulus t_rows t_strands t_letters t_listedMany t_listN t_listWhat t_table t_twists) H := hP
    have hD : va_D A (w_X11_table Y h_t B_t (0 : Int32) x1 t_modulus t_rows t_strands t_letters t_listedMany t_listN t_listWhat t_table t_twists) := hD
    refine lv_aload_n hx hb dX11_table_24 rfl (lv_at hl 0 rfl) ?_
    refine mc_vV ⟨hx, hb, hml, hown, hts⟩ hK hE hA hP hD hS (c_X11_straight l G Y tF H.size h_t B_t (0 : Int32) x1 t_modulus t_rows t_strands t_letters t_listedMany t_listN t_listWhat t_twists h) (cwV 0 hts gX11_table_X11_straight rfl rfl rfl (by decide +kernel) ⟨Nat.le_trans (by decide) hRf, Nat.le_trans (by decide) hRl⟩) (fun u => (w_X11_table Y h_t B_t (0 : Int32) x1 t_modulus t_rows t_strands t_letters t_listedMany t_listN t_listWhat t_table u)) [0, 2] [1] [1, 0, 2] rfl rfl rfl rfl (by decide) (fun _ => rfl) rfl 0 10 rfl rfl rfl rfl hl.1 rfl (Nat.le_of_ble_eq_true rfl) dX11_table_25 (fun u H locs h hP hD hS => ?_)
    obtain ⟨t_twists_25, rfl⟩ : ∃ z, z = u := ⟨_, rfl⟩
    try dsimp only at h
    have hP : va_P G vwCl (w_X11_table Y h_t B_t (0 : Int32) x1 t_modulus t_rows t_strands t_letters t_listedMany t_listN t_listWhat t_table t_twists_25) H := hP
    have hD : va_D A (w_X11_table Y h_t B_t (0 : Int32) x1 t_modulus t_rows t_strands t_letters t_listedMany t_listN t_listWhat t_table t_twists_25) := hD
    refine lv_iconst (v := 0) hx hb dX11_table_28 (by decide) ?_
    refine lv_istore_n (lv' := [(2, .int (0 : Int32)), (0, .ref h_t), (1, .int x1)]) hx hb dX11_table_29 rfl hl (by decide) rfl (fun ls hl => ?_)
    obtain ⟨I30, m30, hI30, hB30⟩ := h
    have L30 : ∀ (x1 : Int32) (t_thrown : Int32) (t_n : Int32) (t_twists : Nat → Int32) (I30 : Int32 → (Nat → Int32) → Prop) (m30 : Int32 → (Nat → Int32) → Nat), (∀ (x2 : Int32) (t_table : Nat → Int32), I30 x2 t_table → pX11_table_30 K x1 t_thrown t_n t_twists x2 t_table (fun x2' t_table' => I30 x2' t_table' ∧ m30 x2' t_table' < m30 x2 t_table)) → ∀ (n : Nat) (x2 : Int32) (t_table : Nat → Int32) (H : Heap) (locs : List Loc) (ls : Array Slot), I30 x2 t_table → m30 x2 t_table < n → va_P G vwCl (w_X11_table Y h_t B_t t_thrown t_n t_modulus t_rows t_strands t_letters t_listedMany t_listN t_listWhat t_table t_twists) H → va_D A (w_X11_table Y h_t B_t t_thrown t_n t_modulus t_rows t_strands t_letters t_listedMany t_listN t_listWhat t_table t_twists) → va_S A s.heap H locs → lv_has ls 4 [(0, .ref h_t), (1, .int x1), (2, .int x2)] → W p l e R s m args below meth c H locs 0 0 Q (F0 m 30 ls []) := by
      intro x1 t_thrown t_n t_twists I30 m30 hB30 n
      induction n with
      | zero => intro x2 t_table H locs ls _ hm; exact absurd hm (Nat.not_lt_zero _)
      | succ n ih =>
        intro x2 t_table H locs ls hI hm hP hD hS hl
        obtain ⟨R30, h, rec30⟩ : ∃ R30 : Int32 → (Nat → Int32) → Prop, pX11_table_30 K x1 t_thrown t_n t_twists x2 t_table R30 ∧ ∀ (x2 : Int32) (t_table : Nat → Int32) (H : Heap) (locs : List Loc) (ls : Array Slot), R30 x2 t_table → va_P G vwCl (w_X11_table Y h_t B_t t_thrown t_n t_modulus t_rows t_strands t_letters t_listedMany t_listN t_listWhat t_table t_twists) H → va_D A (w_X11_table Y h_t B_t t_thrown t_n t_modulus t_rows t_strands t_letters t_listedMany t_listN t_listWhat t_table t_twists) → va_S A s.heap H locs → lv_has ls 4 [(0, .ref h_t), (1, .int x1), (2, .int x2)] → W p l e R s m args below meth c H locs 0 0 Q (F0 m 30 ls []) := ⟨_, hB30 x2 t_table hI, fun x2 t_table H locs ls hh hP hD hS hl => ih x2 t_table H locs ls hh.1 (Nat.lt_of_lt_of_le hh.2 (Nat.le_of_lt_succ hm)) hP hD hS hl⟩
        refine lv_iload_n hx hb dX11_table_30 rfl (lv_at hl 2 rfl) ?_
        refine lv_iload_n hx hb dX11_table_31 rfl (lv_at hl 1 rfl) ?_
        obtain ⟨ht, hf⟩ := h
        refine lv_icmp_ge (tgt := 66) hx hb dX11_table_32 (by decide) (fun c9 => ?_) (fun c9 => ?_)
        · have h := ht c9
          refine lv_iconst (v := 1) hx hb dX11_table_66 (by decide) ?_
          obtain ⟨hz, h⟩ := h
          exact hret (1 : Int32) t_thrown t_n t_table t_twists H locs ls _ hP hD hS hz h dX11_table_67
        · have h := hf c9
          refine lv_iconst (v := 0) hx hb dX11_table_35 (by decide) ?_
          refine lv_istore_n (lv' := [(3, .int (0 : Int32)), (0, .ref h_t), (1, .int x1), (2, .int x2)]) hx hb dX11_table_36 rfl hl (by decide) rfl (fun ls hl => ?_)
          obtain ⟨I37, m37, hI37, hB37⟩ := h
          have L37 : ∀ (x2 : Int32) (I37 : Int32 → (Nat → Int32) → Prop) (m37 : Int32 → (Nat → Int32) → Nat), (∀ (x3 : Int32) (t_table : Nat → Int32), I37 x3 t_table → pX11_table_37 R30 K x1 t_thrown t_n t_twists x2 x3 t_table (fun x3' t_table' => I37 x3' t_table' ∧ m37 x3' t_table' < m37 x3 t_table)) → ∀ (n : Nat) (x3 : Int32) (t_table : Nat → Int32) (H : Heap) (locs : List Loc) (ls : Array Slot), I37 x3 t_table → m37 x3 t_table < n → va_P G vwCl (w_X11_table Y h_t B_t t_thrown t_n t_modulus t_rows t_strands t_letters t_listedMany t_listN t_listWhat t_table t_twists) H → va_D A (w_X11_table Y h_t B_t t_thrown t_n t_modulus t_rows t_strands t_letters t_listedMany t_listN t_listWhat t_table t_twists) → va_S A s.heap H locs → lv_has ls 4 [(0, .ref h_t), (1, .int x1), (2, .int x2), (3, .int x3)] → W p l e R s m args below meth c H locs 0 0 Q (F0 m 37 ls []) := by
            intro x2 I37 m37 hB37 n
            induction n with
            | zero => intro x3 t_table H locs ls _ hm; exact absurd hm (Nat.not_lt_zero _)
            | succ n ih =>
              intro x3 t_table H locs ls hI hm hP hD hS hl
              obtain ⟨R37, h, rec37⟩ : ∃ R37 : Int32 → (Nat → Int32) → Prop, pX11_table_37 R30 K x1 t_thrown t_n t_twists x2 x3 t_table R37 ∧ ∀ (x3 : Int32) (t_table : Nat → Int32) (H : Heap) (locs : List Loc) (ls : Array Slot), R37 x3 t_table → va_P G vwCl (w_X11_table Y h_t B_t t_thrown t_n t_modulus t_rows t_strands t_letters t_listedMany t_listN t_listWhat t_table t_twists) H → va_D A (w_X11_table Y h_t B_t t_thrown t_n t_modulus t_rows t_strands t_letters t_listedMany t_listN t_listWhat t_table t_twists) → va_S A s.heap H locs → lv_has ls 4 [(0, .ref h_t), (1, .int x1), (2, .int x2), (3, .int x3)] → W p l e R s m args below meth c H locs 0 0 Q (F0 m 37 ls []) := ⟨_, hB37 x3 t_table hI, fun x3 t_table H locs ls hh hP hD hS hl => ih x3 t_table H locs ls hh.1 (Nat.lt_of_lt_of_le hh.2 (Nat.le_of_lt_succ hm)) hP hD hS hl⟩
              refine lv_iload_n hx hb dX11_table_37 rfl (lv_at hl 3 rfl) ?_
              refine lv_iload_n hx hb dX11_table_38 rfl (lv_at hl 1 rfl) ?_
              obtain ⟨ht, hf⟩ := h
              refine lv_icmp_ge (tgt := 60) hx hb dX11_table_39 (by decide) (fun c9 => ?_) (fun c9 => ?_)
              · have h := ht c9
                refine lv_iinc (v := (x2 + 1)) (lv' := [(2, .int (x2 + 1)), (0, .ref h_t), (1, .int x1), (3, .int x3)]) hx hb dX11_table_60 hl (k := 2) rfl rfl (by decide) rfl (fun ls hl => ?_)
                refine lv_goto (tgt := 30) hx hb dX11_table_63 (by decide) ?_
                exact rec30 (x2 + 1) t_table H locs ls h hP hD hS (lv_sub hl [1, 2, 0] rfl)
              · have h := hf c9
                refine lv_aload_n hx hb dX11_table_42 rfl (lv_at hl 0 rfl) ?_
                refine va_get (D := G) (ci := 10) (v := .ref (B_t 2)) (C := RX11) (T := TX11) (N := 29) hx hb hts inX11 hown hK hP 0 rfl rfl 2 (by decide) hf13 (fun _ h9 => h9) rfl dX11_table_43 ?_
                refine lv_bipush (v := 8) hx hb dX11_table_46 (by decide) ?_
                refine lv_iload_n hx hb dX11_table_48 rfl (lv_at hl 2 rfl) ?_
                refine lv_imul hx hb dX11_table_49 ?_
                refine lv_iload_n hx hb dX11_table_50 rfl (lv_at hl 3 rfl) ?_
                refine lv_iadd hx hb dX11_table_51 ?_
                refine lv_iload_n hx hb dX11_table_52 rfl (lv_at hl 3 rfl) ?_
                obtain ⟨hin, h⟩ := h
                refine va_iast hx hb hK hP hD hS 1 0 rfl rfl hin dX11_table_53 (fun H locs hP hD hS => ?_)
                have hP : va_P G vwCl (w_X11_table Y h_t B_t t_thrown t_n t_modulus t_rows t_strands t_letters t_listedMany t_listN t_listWhat (upd t_table (Int32.toNatClampNeg (((8 : Int32) * x2) + x3)) x3) t_twists) H := hP
                have hD : va_D A (w_X11_table Y h_t B_t t_thrown t_n t_modulus t_rows t_strands t_letters t_listedMany t_listN t_listWhat (upd t_table (Int32.toNatClampNeg (((8 : Int32) * x2) + x3)) x3) t_twists) := hD
                refine lv_iinc (v := (x3 + 1)) (lv' := [(3, .int (x3 + 1)), (0, .ref h_t), (1, .int x1), (2, .int x2)]) hx hb dX11_table_54 hl (k := 3) rfl rfl (by decide) rfl (fun ls hl => ?_)
                refine lv_goto (tgt := 37) hx hb dX11_table_57 (by decide) ?_
                exact rec37 (x3 + 1) (upd t_table (Int32.toNatClampNeg (((8 : Int32) * x2) + x3)) x3) H locs ls h hP hD hS (lv_sub hl [1, 2, 3, 0] rfl)
          exact L37 x2 I37 m37 hB37 _ (0 : Int32) t_table H locs ls hI37 (Nat.lt_succ_self _) hP hD hS (lv_sub hl [1, 2, 3, 0] rfl)
    exact L30 x1 (0 : Int32) x1 t_twists_25 I30 m30 hB30 _ (0 : Int32) t_table H locs ls hI30 (Nat.lt_succ_self _) hP hD hS (lv_sub hl [1, 2, 0] rfl)
  · have h := hf c9
    refine lv_iconst (v := 0) hx hb dX11_table_17 (by decide) ?_
    obtain ⟨hz, h⟩ := h
    exact hret (0 : Int32) (0 : Int32) t_n t_table t_twists H locs ls _ hP hD hS hz h dX11_table_18

set_option maxHeartbeats 4000000 in
set_option maxRecDepth 100000 in
theorem c_X11_table (l : Launch) (G : va_G) (Y : Nat → ClassId) (tF sz : Nat) (h_t : Nat) (B_t : Nat → Nat) (t_thrown : Int32) (t_n : Int32) (t_modulus : Int32) (t_rows : Int32) (t_strands : Int32) (t_letters : Int32) (t_listedMany : Int32) (t_listN : Int32) (t_listWhat : Int32) (t_table : Nat → Int32) (t_twists : Nat → Int32) (x1 : Int32) {K : Int32 → Int32 → Int32 → (Nat → Int32) → (Nat → Int32) → Prop} (h : pX11_table t_thrown t_n t_table t_twists x1 K) : Met l yX11_table wsX11_table ({ frames := 1, cells := 0, slots := 0, locals := 25 }) (PcM G Y tF sz (w_X11_table Y h_t B_t t_thrown t_n t_modulus t_rows t_strands t_letters t_listedMany t_listN t_listWhat t_table t_twists) [.ref h_t, .int x1]) (va_Qi (fun (r : Int32) (u : Int32 × Int32 × (Nat → Int32) × (Nat → Int32)) => K r u.1 u.2.1 u.2.2.1 u.2.2.2) (fun u t => BM G Y (va_A (w_X11_table Y h_t B_t t_thrown t_n t_modulus t_rows t_strands t_letters t_listedMany t_listN t_listWhat t_table t_twists) sz) (w_X11_table Y h_t B_t u.1 u.2.1 t_modulus t_rows t_strands t_letters t_listedMany t_listN t_listWhat u.2.2.1 u.2.2.2) t) (va_A (w_X11_table Y h_t B_t t_thrown t_n t_modulus t_rows t_strands t_letters t_listedMany t_listN t_listWhat t_table t_twists) sz)) 0 0 (va_A (w_X11_table Y h_t B_t t_thrown t_n t_modulus t_rows t_strands t_letters t_listedMany t_listN t_listWhat t_table t_twists) sz) := by
  refine Met.ofW (cc := cX11_table) (maxL := 4) (ret := (some .boolean)) (by decide +kernel) rfl ?_
  intro p e s m args below meth c s₁ B hml hv
  obtain ⟨rfl, hsz, hP, hK, hD0, hE⟩ := hv
  have hts := atoms_spec (ws := wsX11_table) B.pre
  have hown : s.vm.findClass RX11 = some m.cls := findClass_of_methodNamed B.named
  have hlocks := B.notSynchronized
  subst hsz
  have hD := hD0.self (sz := s.heap.size)
  exact wk_X11_table h_t B_t t_thrown t_n t_modulus t_rows t_strands t_letters t_listedMany t_listN t_listWhat t_table t_twists x1 B.exec B.bytes hml hown hts hK hE (fun q h => Or.inr h) (Nat.le_refl _) (Nat.le_refl _) (fun r t_thrown t_n t_table t_twists H locs ls pc hP hD hS hz hk hd => W.zret (v := r) B.exec B.bytes B.returns hz.n (fun t ht hW => ⟨⟨r, (t_thrown, t_n, t_table, t_twists), rfl, hk, by rw [ht]; exact hP, va_K.moved hW.alike hK, hD⟩, hS.F ht⟩) hS.2.2 hd) hP hD h

abbrev w_X11_set (Y : Nat → ClassId) (h_t : Nat) (B_t : Nat → Nat) (t_thrown : Int32) (t_n : Int32) (t_modulus : Int32) (t_rows : Int32) (t_strands : Int32) (t_letters : Int32) (t_listedMany : Int32) (t_listN : Int32) (t_listWhat : Int32) (t_table : Nat → Int32) : va_W := [(h_t, .inr (10, [.int t_thrown, .int t_n, .ref (B_t 2), .int t_modulus, .ref (B_t 4), .ref (B_t 5), .ref (B_t 6), .ref (B_t 7), .ref (B_t 8), .ref (B_t 9), .ref (B_t 10), .int t_rows, .ref (B_t 12), .ref (B_t 13), .ref (B_t 14), .ref (B_t 15), .ref (B_t 16), .ref (B_t 17), .ref (B_t 18), .ref (B_t 19), .int t_strands, .int t_letters, .ref (B_t 22), .ref (B_t 23), .ref (B_t 24), .ref (B_t 25), .int t_listedMany, .int t_listN, .int t_listWhat])), ((B_t 2), .inl (Y 0, 64, .inl t_table))]

set_option maxHeartbeats 4000000 in
set_option maxRecDepth 100000 in
theorem wk_X11_set {p : Program} {l : Launch} {e : Env} {R : Room} {s : State} {m : MethodId} {args : Array Value} {below : List Frame} {meth : Method} {c : Code} {Q : State → Prop} {G : va_G} {Y : Nat → ClassId} {tF : Nat} {A : Nat → Prop} (h_t : Nat) (B_t : Nat → Nat) (t_thrown : Int32) (t_n : Int32) (t_modulus : Int32) (t_rows : Int32) (t_strands : Int32) (t_letters : Int32) (t_listedMany : Int32) (t_listN : Int32) (t_listWhat : Int32) (t_table : Nat → Int32) (x1 : Int32) (x2 : Int32) (x3 : Int32) {K : Int32 → Int32 → (Nat → Int32) → Prop} (hx : p.tables.exec = Jvm.exec) (hb : c.code = cX11_set) (hml : c.maxLocals = 4) (hown : s.vm.findClass RX11 = some m.cls) (hts : ∀ w ∈ wsX11_set, w.before args s = true) (hK : va_K G vwCl (tyL Y) s) (hE : Ev A tF s) (hA : ∀ q, s.heap.size ≤ q → A q) (hRf : 2 ≤ R.frames) (hRl : 46 ≤ R.locals) (hret : ∀ (r : Int32) (t_thrown : Int32) (t_table : Nat → Int32) (H : Heap) (locs : List Loc) (ls : Array Slot) (pc : Nat), va_P G vwCl (w_X11_set Y h_t B_t t_thrown t_n t_modulus t_rows t_strands t_letters t_listedMany t_listN t_listWhat t_table) H → va_D A (w_X11_set Y h_t B_t t_thrown t_n t_modulus t_rows t_strands t_letters t_listedMany t_listN t_listWhat t_table) → va_S A s.heap H locs → zb r → K r t_thrown t_table → decode cX11_set pc = .ok (.ireturn, 1) → W p l e R s m args below meth c H locs 0 0 Q (F0 m pc ls [.int r])) (hP : va_P G vwCl (w_X11_set Y h_t B_t t_thrown t_n t_modulus t_rows t_strands t_letters t_listedMany t_listN t_listWhat t_table) s.heap) (hD : va_D A (w_X11_set Y h_t B_t t_thrown t_n t_modulus t_rows t_strands t_letters t_listedMany t_listN t_listWhat t_table)) (h : pX11_set t_thrown t_n t_table x1 x2 x3 K) : W p l e R s m args below meth c s.heap [] 0 0 Q (entryFrame m ([.ref h_t, .int x1, .int x2, .int x3] : List Value).toArray 4) := by
  have inX11 : ∀ w ∈ u_ws RX11 TX11 29, w ∈ wsX11_set := by decide +kernel
  have hf13 := hts (.fieldLink RX11 13 "RackBenchModel" "table" "[I") (by decide +kernel)
  have hf83 := hts (.fieldLink RX11 83 "RackBenchModel" "thrown" "I") (by decide +kernel)
  have hl := lv_entry ([.ref h_t, .int x1, .int x2, .int x3]) (n := 4) (Nat.le_of_ble_eq_true rfl)
  rw [lg_entry_eq]
  generalize (lg_sl ([.ref h_t, .int x1, .int x2, .int x3]) ++ List.replicate (4 - (lg_sl ([.ref h_t, .int x1, .int x2, .int x3])).length) Slot.unset).toArray = ls at hl ⊢
  have hl : lv_has ls 4 [(0, .ref h_t), (1, .int x1), (2, .int x2), (3, .int x3)] := hl
  generalize hH0 : s.heap = H at hP ⊢
  have hS : va_S A s.heap H [] := by rw [← hH0]; exact va_S.rf
  clear hH0
  generalize ([] : List Loc) = locs at hS ⊢
  refine lv_aload_n hx hb dX11_set_0 rfl (lv_at hl 0 rfl) ?_
  refine lv_iconst (v := 0) hx hb dX11_set_1 (by decide) ?_
  refine va_put (D := G) (ci := 10) (v := .int (0 : Int32)) (ty := .int) (C := RX11) (T := TX11) (N := 29) hx hb hts inX11 tyX11 tyX11_ok nmX11 hown hK hP hD hS 0 rfl rfl 0 (by decide) hf83 (fun _ h9 => h9) rfl (by decide +kernel) rfl rfl (Nat.le_of_ble_eq_true rfl) dX11_set_2 (fun H locs hP hD hS => ?_)
  have hP : va_P G vwCl (w_X11_set Y h_t B_t (0 : Int32) t_n t_modulus t_rows t_strands t_letters t_listedMany t_listN t_listWhat t_table) H := hP
  have hD : va_D A (w_X11_set Y h_t B_t (0 : Int32) t_n t_modulus t_rows t_strands t_letters t_listedMany t_listN t_listWhat t_table) := hD
  refine lv_aload_n hx hb dX11_set_5 rfl (lv_at hl 0 rfl) ?_
  refine lv_iload_n hx hb dX11_set_6 rfl (lv_at hl 1 rfl) ?_
  refine mc_iV ⟨hx, hb, hml, hown, hts⟩ hK hE hA hP hD hS (c_X11_isThing l G Y tF H.size h_t B_t (0 : Int32) t_n t_modulus t_rows t_strands t_letters t_listedMany t_listN t_listWhat x1 h) (cwV 1 hts gX11_set_X11_isThing rfl rfl rfl (by decide +kernel) ⟨Nat.le_trans (by decide) hRf, Nat.le_trans (by decide) hRl⟩) (fun u => (w_X11_set Y h_t B_t (0 : Int32) t_n t_modulus t_rows t_strands t_letters t_listedMany t_listN t_listWhat t_table)) [0] [1] [1, 0] rfl rfl rfl rfl (by decide) (fun _ => rfl) rfl 0 10 rfl rfl rfl rfl hl.1 rfl (Nat.le_of_ble_eq_true rfl) dX11_set_7 (fun r7 u H locs h hP hD hS => ?_)
  try dsimp only at h
  have hP : va_P G vwCl (w_X11_set Y h_t B_t (0 : Int32) t_n t_modulus t_rows t_strands t_letters t_listedMany t_listN t_listWhat t_table) H := hP
  have hD : va_D A (w_X11_set Y h_t B_t (0 : Int32) t_n t_modulus t_rows t_strands t_letters t_listedMany t_listN t_listWhat t_table) := hD
  obtain ⟨ht, hf⟩ := h
  refine lv_if_eq (tgt := 29) hx hb dX11_set_10 (by decide) (fun c9 => ?_) (fun c9 => ?_)
  · have h := ht c9
    refine lv_iconst (v := 0) hx hb dX11_set_29 (by decide) ?_
    obtain ⟨hz, h⟩ := h
    exact hret (0 : Int32) (0 : Int32) t_table H locs ls _ hP hD hS hz h dX11_set_30
  · have h := hf c9
    refine lv_aload_n hx hb dX11_set_13 rfl (lv_at hl 0 rfl) ?_
    refine lv_iload_n hx hb dX11_set_14 rfl (lv_at hl 2 rfl) ?_
    refine mc_iV ⟨hx, hb, hml, hown, hts⟩ hK hE hA hP hD hS (c_X11_isThing l G Y tF H.size h_t B_t (0 : Int32) t_n t_modulus t_rows t_strands t_letters t_listedMany t_listN t_listWhat x2 h) (cwV 1 hts gX11_set_X11_isThing rfl rfl rfl (by decide +kernel) ⟨Nat.le_trans (by decide) hRf, Nat.le_trans (by decide) hRl⟩) (fun u => (w_X11_set Y h_t B_t (0 : Int32) t_n t_modulus t_rows t_strands t_letters t_listedMany t_listN t_listWhat t_table)) [0] [1] [1, 0] rfl rfl rfl rfl (by decide) (fun _ => rfl) rfl 0 10 rfl rfl rfl rfl hl.1 rfl (Nat.le_of_ble_eq_true rfl) dX11_set_15 (fun r15 u H locs h hP hD hS => ?_)
    try dsimp only at h
    have hP : va_P G vwCl (w_X11_set Y h_t B_t (0 : Int32) t_n t_modulus t_rows t_strands t_letters t_listedMany t_listN t_listWhat t_table) H := hP
    have hD : va_D A (w_X11_set Y h_t B_t (0 : Int32) t_n t_modulus t_rows t_strands t_letters t_listedMany t_listN t_listWhat t_table) := hD
    obtain ⟨ht, hf⟩ := h
    refine lv_if_eq (tgt := 29) hx hb dX11_set_18 (by decide) (fun c9 => ?_) (fun c9 => ?_)
    · have h := ht c9
      refine lv_iconst (v := 0) hx hb dX11_set_29 (by decide) ?_
      obtain ⟨hz, h⟩ := h
      exact hret (0 : Int32) (0 : Int32) t_table H locs ls _ hP hD hS hz h dX11_set_30
    · have h := hf c9
      refine lv_aload_n hx hb dX11_set_21 rfl (lv_at hl 0 rfl) ?_
      refine lv_iload_n hx hb dX11_set_22 rfl (lv_at hl 3 rfl) ?_
      refine mc_iV ⟨hx, hb, hml, hown, hts⟩ hK hE hA hP hD hS (c_X11_isThing l G Y tF H.size h_t B_t (0 : Int32) t_n t_modulus t_rows t_strands t_letters t_listedMany t_listN t_listWhat x3 h) (cwV 1 hts gX11_set_X11_isThing rfl rfl rfl (by decide +kernel) ⟨Nat.le_trans (by decide) hRf, Nat.le_trans (by decide) hRl⟩) (fun u => (w_X11_set Y h_t B_t (0 : Int32) t_n t_modulus t_rows t_strands t_letters t_listedMany t_listN t_listWhat t_table)) [0] [1] [1, 0] rfl rfl rfl rfl (by decide) (fun _ => rfl) rfl 0 10 rfl rfl rfl rfl hl.1 rfl (Nat.le_of_ble_eq_true rfl) dX11_set_23 (fun r23 u H locs h hP hD hS => ?_)
      try dsimp only at h
      have hP : va_P G vwCl (w_X11_set Y h_t B_t (0 : Int32) t_n t_modulus t_rows t_strands t_letters t_listedMany t_listN t_listWhat t_table) H := hP
      have hD : va_D A (w_X11_set Y h_t B_t (0 : Int32) t_n t_modulus t_rows t_strands t_letters t_listedMany t_listN t_listWhat t_table) := hD
      obtain ⟨ht, hf⟩ := h
      refine lv_if_ne (tgt := 31) hx hb dX11_set_26 (by decide) (fun c9 => ?_) (fun c9 => ?_)
      · have h := ht c9
        refine lv_aload_n hx hb dX11_set_31 rfl (lv_at hl 0 rfl) ?_
        refine va_get (D := G) (ci := 10) (v := .ref (B_t 2)) (C := RX11) (T := TX11) (N := 29) hx hb hts inX11 hown hK hP 0 rfl rfl 2 (by decide) hf13 (fun _ h9 => h9) rfl dX11_set_32 ?_
        refine lv_bipush (v := 8) hx hb dX11_set_35 (by decide) ?_
        refine lv_iload_n hx hb dX11_set_37 rfl (lv_at hl 1 rfl) ?_
        refine lv_imul hx hb dX11_set_38 ?_
        refine lv_iload_n hx hb dX11_set_39 rfl (lv_at hl 2 rfl) ?_
        refine lv_iadd hx hb dX11_set_40 ?_
        refine lv_iload_n hx hb dX11_set_41 rfl (lv_at hl 3 rfl) ?_
        obtain ⟨hin, h⟩ := h
        refine va_iast hx hb hK hP hD hS 1 0 rfl rfl hin dX11_set_42 (fun H locs hP hD hS => ?_)
        have hP : va_P G vwCl (w_X11_set Y h_t B_t (0 : Int32) t_n t_modulus t_rows t_strands t_letters t_listedMany t_listN t_listWhat (upd t_table (Int32.toNatClampNeg (((8 : Int32) * x1) + x2)) x3)) H := hP
        have hD : va_D A (w_X11_set Y h_t B_t (0 : Int32) t_n t_modulus t_rows t_strands t_letters t_listedMany t_listN t_listWhat (upd t_table (Int32.toNatClampNeg (((8 : Int32) * x1) + x2)) x3)) := hD
        refine lv_iconst (v := 1) hx hb dX11_set_43 (by decide) ?_
        obtain ⟨hz, h⟩ := h
        exact hret (1 : Int32) (0 : Int32) (upd t_table (Int32.toNatClampNeg (((8 : Int32) * x1) + x2)) x3) H locs ls _ hP hD hS hz h dX11_set_44
      · have h := hf c9
        refine lv_iconst (v := 0) hx hb dX11_set_29 (by decide) ?_
        obtain ⟨hz, h⟩ := h
        exact hret (0 : Int32) (0 : Int32) t_table H locs ls _ hP hD hS hz h dX11_set_30

set_option maxHeartbeats 4000000 in
set_option maxRecDepth 100000 in
theorem c_X11_set (l : Launch) (G : va_G) (Y : Nat → ClassId) (tF sz : Nat) (h_t : Nat) (B_t : Nat → Nat) (t_thrown : Int32) (t_n : Int32) (t_modulus : Int32) (t_rows : Int32) (t_strands : Int32) (t_letters : Int32) (t_listedMany : Int32) (t_listN : Int32) (t_listWhat : Int32) (t_table : Nat → Int32) (x1 : Int32) (x2 : Int32) (x3 : Int32) {K : Int32 → Int32 → (Nat → Int32) → Prop} (h : pX11_set t_thrown t_n t_table x1 x2 x3 K) : Met l yX11_set wsX11_set ({ frames := 2, cells := 0, slots := 0, locals := 46 }) (PcM G Y tF sz (w_X11_set Y h_t B_t t_thrown t_n t_modulus t_rows t_strands t_letters t_listedMany t_listN t_listWhat t_table) [.ref h_t, .int x1, .int x2, .int x3]) (va_Qi (fun (r : Int32) (u : Int32 × (Nat → Int32)) => K r u.1 u.2) (fun u t => BM G Y (va_A (w_X11_set Y h_t B_t t_thrown t_n t_modulus t_rows t_strands t_letters t_listedMany t_listN t_listWhat t_table) sz) (w_X11_set Y h_t B_t u.1 t_n t_modulus t_rows t_strands t_letters t_listedMany t_listN t_listWhat u.2) t) (va_A (w_X11_set Y h_t B_t t_thrown t_n t_modulus t_rows t_strands t_letters t_listedMany t_listN t_listWhat t_table) sz)) 0 0 (va_A (w_X11_set Y h_t B_t t_thrown t_n t_modulus t_rows t_strands t_letters t_listedMany t_listN t_listWhat t_table) sz) := by
  refine Met.ofW (cc := cX11_set) (maxL := 4) (ret := (some .boolean)) (by decide +kernel) rfl ?_
  intro p e s m args below meth c s₁ B hml hv
  obtain ⟨rfl, hsz, hP, hK, hD0, hE⟩ := hv
  have hts := atoms_spec (ws := wsX11_set) B.pre
  have hown : s.vm.findClass RX11 = some m.cls := findClass_of_methodNamed B.named
  have hlocks := B.notSynchronized
  subst hsz
  have hD := hD0.self (sz := s.heap.size)
  exact wk_X11_set h_t B_t t_thrown t_n t_modulus t_rows t_strands t_letters t_listedMany t_listN t_listWhat t_table x1 x2 x3 B.exec B.bytes hml hown hts hK hE (fun q h => Or.inr h) (Nat.le_refl _) (Nat.le_refl _) (fun r t_thrown t_table H locs ls pc hP hD hS hz hk hd => W.zret (v := r) B.exec B.bytes B.returns hz.n (fun t ht hW => ⟨⟨r, (t_thrown, t_table), rfl, hk, by rw [ht]; exact hP, va_K.moved hW.alike hK, hD⟩, hS.F ht⟩) hS.2.2 hd) hP hD h

abbrev w_X11_at (Y : Nat → ClassId) (h_t : Nat) (B_t : Nat → Nat) (t_thrown : Int32) (t_n : Int32) (t_modulus : Int32) (t_rows : Int32) (t_strands : Int32) (t_letters : Int32) (t_listedMany : Int32) (t_listN : Int32) (t_listWhat : Int32) (t_table : Nat → Int32) : va_W := [(h_t, .inr (10, [.int t_thrown, .int t_n, .ref (B_t 2), .int t_modulus, .ref (B_t 4), .ref (B_t 5), .ref (B_t 6), .ref (B_t 7), .ref (B_t 8), .ref (B_t 9), .ref (B_t 10), .int t_rows, .ref (B_t 12), .ref (B_t 13), .ref (B_t 14), .ref (B_t 15), .ref (B_t 16), .ref (B_t 17), .ref (B_t 18), .ref (B_t 19), .int t_strands, .int t_letters, .ref (B_t 22), .ref (B_t 23), .ref (B_t 24), .ref (B_t 25), .int t_listedMany, .int t_listN, .int t_listWhat])), ((B_t 2), .inl (Y 0, 64, .inl t_table))]

set_option maxHeartbeats 4000000 in
set_option maxRecDepth 100000 in
theorem wk_X11_at {p : Program} {l : Launch} {e : Env} {R : Room} {s : State} {m : MethodId} {args : Array Value} {below : List Frame} {meth : Method} {c : Code} {Q : State → Prop} {G : va_G} {Y : Nat → ClassId} {tF : Nat} {A : Nat → Prop} (h_t : Nat) (B_t : Nat → Nat) (t_thrown : Int32) (t_n : Int32) (t_modulus : Int32) (t_rows : Int32) (t_strands : Int32) (t_letters : Int32) (t_listedMany : Int32) (t_listN : Int32) (t_listWhat : Int32) (t_table : Nat → Int32) (x1 : Int32) (x2 : Int32) {K : Int32 → Int32 → Prop} (hx : p.tables.exec = Jvm.exec) (hb : c.code = cX11_at) (hml : c.maxLocals = 3) (hown : s.vm.findClass RX11 = some m.cls) (hts : ∀ w ∈ wsX11_at, w.before args s = true) (hK : va_K G vwCl (tyL Y) s) (hE : Ev A tF s) (hA : ∀ q, s.heap.size ≤ q → A q) (hRf : 2 ≤ R.frames) (hRl : 46 ≤ R.locals) (hret : ∀ (r : Int32) (t_thrown : Int32) (H : Heap) (locs : List Loc) (ls : Array Slot) (pc : Nat), va_P G vwCl (w_X11_at Y h_t B_t t_thrown t_n t_modulus t_rows t_strands t_letters t_listedMany t_listN t_listWhat t_table) H → va_D A (w_X11_at Y h_t B_t t_thrown t_n t_modulus t_rows t_strands t_letters t_listedMany t_listN t_listWhat t_table) → va_S A s.heap H locs → K r t_thrown → decode cX11_at pc = .ok (.ireturn, 1) → W p l e R s m args below meth c H locs 0 0 Q (F0 m pc ls [.int r])) (hP : va_P G vwCl (w_X11_at Y h_t B_t t_thrown t_n t_modulus t_rows t_strands t_letters t_listedMany t_listN t_listWhat t_table) s.heap) (hD : va_D A (w_X11_at Y h_t B_t t_thrown t_n t_modulus t_rows t_strands t_letters t_listedMany t_listN t_listWhat t_table)) (h : pX11_at t_thrown t_n t_table x1 x2 K) : W p l e R s m args below meth c s.heap [] 0 0 Q (entryFrame m ([.ref h_t, .int x1, .int x2] : List Value).toArray 3) := by
  have inX11 : ∀ w ∈ u_ws RX11 TX11 29, w ∈ wsX11_at := by decide +kernel
  have hf83 := hts (.fieldLink RX11 83 "RackBenchModel" "thrown" "I") (by decide +kernel)
  have hl := lv_entry ([.ref h_t, .int x1, .int x2]) (n := 3) (Nat.le_of_ble_eq_true rfl)
  rw [lg_entry_eq]
  generalize (lg_sl ([.ref h_t, .int x1, .int x2]) ++ List.replicate (3 - (lg_sl ([.ref h_t, .int x1, .int x2])).length) Slot.unset).toArray = ls at hl ⊢
  have hl : lv_has ls 3 [(0, .ref h_t), (1, .int x1), (2, .int x2)] := hl
  generalize hH0 : s.heap = H at hP ⊢
  have hS : va_S A s.heap H [] := by rw [← hH0]; exact va_S.rf
  clear hH0
  generalize ([] : List Loc) = locs at hS ⊢
  have J30 : ∀ (t_thrown : Int32) (H : Heap) (locs : List Loc) (ls : Array Slot), pX11_at_30 t_n t_table K t_thrown → va_P G vwCl (w_X11_at Y h_t B_t t_thrown t_n t_modulus t_rows t_strands t_letters t_listedMany t_listN t_listWhat t_table) H → va_D A (w_X11_at Y h_t B_t t_thrown t_n t_modulus t_rows t_strands t_letters t_listedMany t_listN t_listWhat t_table) → va_S A s.heap H locs → lv_has ls 3 [(0, .ref h_t)] → W p l e R s m args below meth c H locs 0 0 Q (F0 m 30 ls []) := by
    intro t_thrown H locs ls h hP hD hS hl
    refine lv_aload_n hx hb dX11_at_30 rfl (lv_at hl 0 rfl) ?_
    refine mc_iV ⟨hx, hb, hml, hown, hts⟩ hK hE hA hP hD hS (c_X11_refuse l G Y tF H.size h_t B_t t_thrown t_n t_modulus t_rows t_strands t_letters t_listedMany t_listN t_listWhat h) (cwV 0 hts gX11_at_X11_refuse rfl rfl rfl (by decide +kernel) ⟨Nat.le_trans (by decide) hRf, Nat.le_trans (by decide) hRl⟩) (fun u => (w_X11_at Y h_t B_t u t_n t_modulus t_rows t_strands t_letters t_listedMany t_listN t_listWhat t_table)) [0] [1] [1, 0] rfl rfl rfl rfl (by decide) (fun _ => rfl) rfl 0 10 rfl rfl rfl rfl hl.1 rfl (Nat.le_of_ble_eq_true rfl) dX11_at_31 (fun r31 u H locs h hP hD hS => ?_)
    obtain ⟨t_thrown_31, rfl⟩ : ∃ z, z = u := ⟨_, rfl⟩
    try dsimp only at h
    have hP : va_P G vwCl (w_X11_at Y h_t B_t t_thrown_31 t_n t_modulus t_rows t_strands t_letters t_listedMany t_listN t_listWhat t_table) H := hP
    have hD : va_D A (w_X11_at Y h_t B_t t_thrown_31 t_n t_modulus t_rows t_strands t_letters t_listedMany t_listN t_listWhat t_table) := hD
    exact hret r31 t_thrown_31 H locs ls _ hP hD hS h dX11_at_34
  refine lv_aload_n hx hb dX11_at_0 rfl (lv_at hl 0 rfl) ?_
  refine lv_iconst (v := 0) hx hb dX11_at_1 (by decide) ?_
  refine va_put (D := G) (ci := 10) (v := .int (0 : Int32)) (ty := .int) (C := RX11) (T := TX11) (N := 29) hx hb hts inX11 tyX11 tyX11_ok nmX11 hown hK hP hD hS 0 rfl rfl 0 (by decide) hf83 (fun _ h9 => h9) rfl (by decide +kernel) rfl rfl (Nat.le_of_ble_eq_true rfl) dX11_at_2 (fun H locs hP hD hS => ?_)
  have hP : va_P G vwCl (w_X11_at Y h_t B_t (0 : Int32) t_n t_modulus t_rows t_strands t_letters t_listedMany t_listN t_listWhat t_table) H := hP
  have hD : va_D A (w_X11_at Y h_t B_t (0 : Int32) t_n t_modulus t_rows t_strands t_letters t_listedMany t_listN t_listWhat t_table) := hD
  refine lv_aload_n hx hb dX11_at_5 rfl (lv_at hl 0 rfl) ?_
  refine lv_iload_n hx hb dX11_at_6 rfl (lv_at hl 1 rfl) ?_
  refine mc_iV ⟨hx, hb, hml, hown, hts⟩ hK hE hA hP hD hS (c_X11_isThing l G Y tF H.size h_t B_t (0 : Int32) t_n t_modulus t_rows t_strands t_letters t_listedMany t_listN t_listWhat x1 h) (cwV 1 hts gX11_at_X11_isThing rfl rfl rfl (by decide +kernel) ⟨Nat.le_trans (by decide) hRf, Nat.le_trans (by decide) hRl⟩) (fun u => (w_X11_at Y h_t B_t (0 : Int32) t_n t_modulus t_rows t_strands t_letters t_listedMany t_listN t_listWhat t_table)) [0] [1] [1, 0] rfl rfl rfl rfl (by decide) (fun _ => rfl) rfl 0 10 rfl rfl rfl rfl hl.1 rfl (Nat.le_of_ble_eq_true rfl) dX11_at_7 (fun r7 u H locs h hP hD hS => ?_)
  try dsimp only at h
  have hP : va_P G vwCl (w_X11_at Y h_t B_t (0 : Int32) t_n t_modulus t_rows t_strands t_letters t_listedMany t_listN t_listWhat t_table) H := hP
  have hD : va_D A (w_X11_at Y h_t B_t (0 : Int32) t_n t_modulus t_rows t_strands t_letters t_listedMany t_listN t_listWhat t_table) := hD
  obtain ⟨ht, hf⟩ := h
  refine lv_if_eq (tgt := 30) hx hb dX11_at_10 (by decide) (fun c9 => ?_) (fun c9 => ?_)
  · have h := ht c9
    exact J30 (0 : Int32) H locs ls h hP hD hS (lv_sub hl [0] rfl)
  · have h := hf c9
    refine lv_aload_n hx hb dX11_at_13 rfl (lv_at hl 0 rfl) ?_
    refine lv_iload_n hx hb dX11_at_14 rfl (lv_at hl 2 rfl) ?_
    refine mc_iV ⟨hx, hb, hml, hown, hts⟩ hK hE hA hP hD hS (c_X11_isThing l G Y tF H.size h_t B_t (0 : Int32) t_n t_modulus t_rows t_strands t_letters t_listedMany t_listN t_listWhat x2 h) (cwV 1 hts gX11_at_X11_isThing rfl rfl rfl (by decide +kernel) ⟨Nat.le_trans (by decide) hRf, Nat.le_trans (by decide) hRl⟩) (fun u => (w_X11_at Y h_t B_t (0 : Int32) t_n t_modulus t_rows t_strands t_letters t_listedMany t_listN t_listWhat t_table)) [0] [1] [1, 0] rfl rfl rfl rfl (by decide) (fun _ => rfl) rfl 0 10 rfl rfl rfl rfl hl.1 rfl (Nat.le_of_ble_eq_true rfl) dX11_at_15 (fun r15 u H locs h hP hD hS => ?_)
    try dsimp only at h
    have hP : va_P G vwCl (w_X11_at Y h_t B_t (0 : Int32) t_n t_modulus t_rows t_strands t_letters t_listedMany t_listN t_listWhat t_table) H := hP
    have hD : va_D A (w_X11_at Y h_t B_t (0 : Int32) t_n t_modulus t_rows t_strands t_letters t_listedMany t_listN t_listWhat t_table) := hD
    obtain ⟨ht, hf⟩ := h
    refine lv_if_eq (tgt := 30) hx hb dX11_at_18 (by decide) (fun c9 => ?_) (fun c9 => ?_)
    · have h := ht c9
      exact J30 (0 : Int32) H locs ls h hP hD hS (lv_sub hl [0] rfl)
    · have h := hf c9
      refine lv_aload_n hx hb dX11_at_21 rfl (lv_at hl 0 rfl) ?_
      refine lv_iload_n hx hb dX11_at_22 rfl (lv_at hl 1 rfl) ?_
      refine lv_iload_n hx hb dX11_at_23 rfl (lv_at hl 2 rfl) ?_
      refine mc_iV ⟨hx, hb, hml, hown, hts⟩ hK hE hA hP hD hS (c_X11_by l G Y tF H.size h_t B_t (0 : Int32) t_n t_modulus t_rows t_strands t_letters t_listedMany t_listN t_listWhat t_table x1 x2 h) (cwV 2 hts gX11_at_X11_by rfl rfl rfl (by decide +kernel) ⟨Nat.le_trans (by decide) hRf, Nat.le_trans (by decide) hRl⟩) (fun u => (w_X11_at Y h_t B_t (0 : Int32) t_n t_modulus t_rows t_strands t_letters t_listedMany t_listN t_listWhat t_table)) [0, 1] [] [0, 1] rfl rfl rfl rfl (by decide) (fun _ => rfl) rfl 0 10 rfl rfl rfl rfl hl.1 rfl (Nat.le_of_ble_eq_true rfl) dX11_at_24 (fun r24 u H locs h hP hD hS => ?_)
      try dsimp only at h
      have hP : va_P G vwCl (w_X11_at Y h_t B_t (0 : Int32) t_n t_modulus t_rows t_strands t_letters t_listedMany t_listN t_listWhat t_table) H := hP
      have hD : va_D A (w_X11_at Y h_t B_t (0 : Int32) t_n t_modulus t_rows t_strands t_letters t_listedMany t_listN t_listWhat t_table) := hD
      refine lv_goto (tgt := 34) hx hb dX11_at_27 (by decide) ?_
      exact hret r24 (0 : Int32) H locs ls _ hP hD hS h dX11_at_34

set_option maxHeartbeats 4000000 in
set_option maxRecDepth 100000 in
theorem c_X11_at (l : Launch) (G : va_G) (Y : Nat → ClassId) (tF sz : Nat) (h_t : Nat) (B_t : Nat → Nat) (t_thrown : Int32) (t_n : Int32) (t_modulus : Int32) (t_rows : Int32) (t_strands : Int32) (t_letters : Int32) (t_listedMany : Int32) (t_listN : Int32) (t_listWhat : Int32) (t_table : Nat → Int32) (x1 : Int32) (x2 : Int32) {K : Int32 → Int32 → Prop} (h : pX11_at t_thrown t_n t_table x1 x2 K) : Met l yX11_at wsX11_at ({ frames := 2, cells := 0, slots := 0, locals := 46 }) (PcM G Y tF sz (w_X11_at Y h_t B_t t_thrown t_n t_modulus t_rows t_strands t_letters t_listedMany t_listN t_listWhat t_table) [.ref h_t, .int x1, .int x2]) (va_Qi (fun (r : Int32) (u : Int32) => K r u) (fun u t => BM G Y (va_A (w_X11_at Y h_t B_t t_thrown t_n t_modulus t_rows t_strands t_letters t_listedMany t_listN t_listWhat t_table) sz) (w_X11_at Y h_t B_t u t_n t_modulus t_rows t_strands t_letters t_listedMany t_listN t_listWhat t_table) t) (va_A (w_X11_at Y h_t B_t t_thrown t_n t_modulus t_rows t_strands t_letters t_listedMany t_listN t_listWhat t_table) sz)) 0 0 (va_A (w_X11_at Y h_t B_t t_thrown t_n t_modulus t_rows t_strands t_letters t_listedMany t_listN t_listWhat t_table) sz) := by
  refine Met.ofW (cc := cX11_at) (maxL := 3) (ret := (some .int)) (by decide +kernel) rfl ?_
  intro p e s m args below meth c s₁ B hml hv
  obtain ⟨rfl, hsz, hP, hK, hD0, hE⟩ := hv
  have hts := atoms_spec (ws := wsX11_at) B.pre
  have hown : s.vm.findClass RX11 = some m.cls := findClass_of_methodNamed B.named
  have hlocks := B.notSynchronized
  subst hsz
  have hD := hD0.self (sz := s.heap.size)
  exact wk_X11_at h_t B_t t_thrown t_n t_modulus t_rows t_strands t_letters t_listedMany t_listN t_listWhat t_table x1 x2 B.exec B.bytes hml hown hts hK hE (fun q h => Or.inr h) (Nat.le_refl _) (Nat.le_refl _) (fun r t_thrown H locs ls pc hP hD hS hk hd => W.iret (v := r) B.exec B.bytes B.returns (fun t ht hW => ⟨⟨r, t_thrown, rfl, hk, by rw [ht]; exact hP, va_K.moved hW.alike hK, hD⟩, hS.F ht⟩) hS.2.2 hd) hP hD h

abbrev w_X11_common (Y : Nat → ClassId) : va_W := []

set_option maxHeartbeats 4000000 in
set_option maxRecDepth 100000 in
theorem wk_X11_common {p : Program} {l : Launch} {e : Env} {R : Room} {s : State} {m : MethodId} {args : Array Value} {below : List Frame} {meth : Method} {c : Code} {Q : State → Prop} {G : va_G} {Y : Nat → ClassId} {tF : Nat} {A : Nat → Prop} (x0 : Int32) (x1 : Int32) {rec : Int32 → Int32 → (Int32 → Prop) → Prop} {fB lB : Nat} (hRcF : fB + 1 ≤ R.frames) (hRcL : 8 + (2 + 11) + lB ≤ R.locals) (hrec : ∀ (sz : Nat) (x0 : Int32) (x1 : Int32) {K : Int32 → Prop}, rec x0 x1 K → Met l yX11_common wsX11_common ({ frames := fB, cells := 0, slots := 0, locals := lB }) (PcM G Y tF sz (w_X11_common Y) [.int x0, .int x1]) (va_Qi (fun (r : Int32) (u : Unit) => K r ) (fun u t => BM G Y (va_A (w_X11_common Y) sz) (w_X11_common Y) t) (va_A (w_X11_common Y) sz)) 0 0 (va_A (w_X11_common Y) sz)) {K : Int32 → Prop} (hx : p.tables.exec = Jvm.exec) (hb : c.code = cX11_common) (hml : c.maxLocals = 2) (hown : s.vm.findClass RX11 = some m.cls) (hts : ∀ w ∈ wsX11_common, w.before args s = true) (hK : va_K G vwCl (tyL Y) s) (hE : Ev A tF s) (hA : ∀ q, s.heap.size ≤ q → A q) (hRf : 0 ≤ R.frames) (hRl : 0 ≤ R.locals) (hret : ∀ (r : Int32)  (H : Heap) (locs : List Loc) (ls : Array Slot) (pc : Nat), va_P G vwCl (w_X11_common Y) H → va_D A (w_X11_common Y) → va_S A s.heap H locs → K r → decode cX11_common pc = .ok (.ireturn, 1) → W p l e R s m args below meth c H locs 0 0 Q (F0 m pc ls [.int r])) (hP : va_P G vwCl (w_X11_common Y) s.heap) (hD : va_D A (w_X11_common Y)) (h : pX11_common_b rec x0 x1 K) : W p l e R s m args below meth c s.heap [] 0 0 Q (entryFrame m ([.int x0, .int x1] : List Value).toArray 2) := by
  have hl := lv_entry ([.int x0, .int x1]) (n := 2) (Nat.le_of_ble_eq_true rfl)
  rw [lg_entry_eq]
  generalize (lg_sl ([.int x0, .int x1]) ++ List.replicate (2 - (lg_sl ([.int x0, .int x1])).length) Slot.unset).toArray = ls at hl ⊢
  have hl : lv_has ls 2 [(0, .int x0), (1, .int x1)] := hl
  generalize hH0 : s.heap = H at hP ⊢
  have hS : va_S A s.heap H [] := by rw [← hH0]; exact va_S.rf
  clear hH0
  generalize ([] : List Loc) = locs at hS ⊢
  refine lv_iload_n hx hb dX11_common_0 rfl (lv_at hl 1 rfl) ?_
  obtain ⟨ht, hf⟩ := h
  refine lv_if_ne (tgt := 8) hx hb dX11_common_1 (by decide) (fun c9 => ?_) (fun c9 => ?_)
  · have h := ht c9
    refine lv_iload_n hx hb dX11_common_8 rfl (lv_at hl 1 rfl) ?_
    refine lv_iload_n hx hb dX11_common_9 rfl (lv_at hl 0 rfl) ?_
    refine lv_iload_n hx hb dX11_common_10 rfl (lv_at hl 1 rfl) ?_
    obtain ⟨hne, h⟩ := h
    refine lv_irem hx hb dX11_common_11 hne ?_
    refine mc_iS ⟨hx, hb, hml, hown, hts⟩ hK hE hA hP hD hS (hrec H.size x1 (x0 - x0 / x1 * x1) h) (va_cwS 2 hts gX11_common_X11_common rfl rfl rfl (by decide +kernel) ⟨hRcF, hRcL⟩) (fun u => (w_X11_common Y)) [] [] [] rfl rfl rfl rfl (by decide) (fun _ => rfl) rfl rfl hl.1 rfl (Nat.le_of_ble_eq_true rfl) dX11_common_12 (fun r12 u H locs h hP hD hS => ?_)
    try dsimp only at h
    have hP : va_P G vwCl (w_X11_common Y) H := hP
    have hD : va_D A (w_X11_common Y) := hD
    exact hret r12  H locs ls _ hP hD hS h dX11_common_15
  · have h := hf c9
    refine lv_iload_n hx hb dX11_common_4 rfl (lv_at hl 0 rfl) ?_
    refine lv_goto (tgt := 15) hx hb dX11_common_5 (by decide) ?_
    exact hret x0  H locs ls _ hP hD hS h dX11_common_15

set_option maxHeartbeats 4000000 in
set_option maxRecDepth 100000 in
theorem cs_X11_common (l : Launch) (d : Nat) (G : va_G) (Y : Nat → ClassId) (tF sz : Nat) (x0 : Int32) (x1 : Int32) {K : Int32 → Prop} (hrec : ∀ (sz : Nat) (x0 : Int32) (x1 : Int32) {K : Int32 → Prop}, pX11_common d x0 x1 K → Met l yX11_common wsX11_common ({ frames := (0 + d), cells := 0, slots := 0, locals := (0 + d * 21) }) (PcM G Y tF sz (w_X11_common Y) [.int x0, .int x1]) (va_Qi (fun (r : Int32) (u : Unit) => K r ) (fun u t => BM G Y (va_A (w_X11_common Y) sz) (w_X11_common Y) t) (va_A (w_X11_common Y) sz)) 0 0 (va_A (w_X11_common Y) sz)) (h : pX11_common (d + 1) x0 x1 K) : Met l yX11_common wsX11_common ({ frames := (0 + (d + 1)), cells := 0, slots := 0, locals := (0 + (d + 1) * 21) }) (PcM G Y tF sz (w_X11_common Y) [.int x0, .int x1]) (va_Qi (fun (r : Int32) (u : Unit) => K r ) (fun u t => BM G Y (va_A (w_X11_common Y) sz) (w_X11_common Y) t) (va_A (w_X11_common Y) sz)) 0 0 (va_A (w_X11_common Y) sz) := by
  refine Met.ofW (cc := cX11_common) (maxL := 2) (ret := (some .int)) (by decide +kernel) rfl ?_
  intro p e s m args below meth c s₁ B hml hv
  obtain ⟨rfl, hsz, hP, hK, hD0, hE⟩ := hv
  have hts := atoms_spec (ws := wsX11_common) B.pre
  have hown : s.vm.findClass RX11 = some m.cls := findClass_of_methodNamed B.named
  have hlocks := B.notSynchronized
  subst hsz
  have hD := hD0.self (sz := s.heap.size)
  exact wk_X11_common x0 x1 (rec := pX11_common d) (fB := (0 + d)) (lB := (0 + d * 21)) (by show _ ≤ _; simp only [headSpec]; omega) (by show _ ≤ _; simp only [headSpec]; omega) (fun sz x0 x1 _ hh => hrec sz x0 x1 hh) B.exec B.bytes hml hown hts hK hE (fun q h => Or.inr h) (by show _ ≤ _; simp only [headSpec]; omega) (by show _ ≤ _; simp only [headSpec]; omega) (fun r  H locs ls pc hP hD hS hk hd => W.iret (v := r) B.exec B.bytes B.returns (fun t ht hW => ⟨⟨r, (), rfl, hk, by rw [ht]; exact hP, va_K.moved hW.alike hK, hD⟩, hS.F ht⟩) hS.2.2 hd) hP hD h

theorem c_X11_common (d : Nat) (l : Launch) (G : va_G) (Y : Nat → ClassId) (tF sz : Nat) (x0 : Int32) (x1 : Int32) {K : Int32 → Prop} (h : pX11_common d x0 x1 K) : Met l yX11_common wsX11_common ({ frames := (0 + d), cells := 0, slots := 0, locals := (0 + d * 21) }) (PcM G Y tF sz (w_X11_common Y) [.int x0, .int x1]) (va_Qi (fun (r : Int32) (u : Unit) => K r ) (fun u t => BM G Y (va_A (w_X11_common Y) sz) (w_X11_common Y) t) (va_A (w_X11_common Y) sz)) 0 0 (va_A (w_X11_common Y) sz) := by
  induction d generalizing sz x0 x1 K with
  | zero => exact h.elim
  | succ d ih => exact cs_X11_common l d G Y tF sz x0 x1 (fun sz x0 x1 _ hh => ih sz x0 x1 hh) h

abbrev w_X11_line (Y : Nat → ClassId) (h_t : Nat) (B_t : Nat → Nat) (t_thrown : Int32) (t_n : Int32) (t_modulus : Int32) (t_rows : Int32) (t_strands : Int32) (t_letters : Int32) (t_listedMany : Int32) (t_listN : Int32) (t_listWhat : Int32) (t_table : Nat → Int32) (t_twists : Nat → Int32) : va_W := [(h_t, .inr (10, [.int t_thrown, .int t_n, .ref (B_t 2), .int t_modulus, .ref (B_t 4), .ref (B_t 5), .ref (B_t 6), .ref (B_t 7), .ref (B_t 8), .ref (B_t 9), .ref (B_t 10), .int t_rows, .ref (B_t 12), .ref (B_t 13), .ref (B_t 14), .ref (B_t 15), .ref (B_t 16), .ref (B_t 17), .ref (B_t 18), .ref (B_t 19), .int t_strands, .int t_letters, .ref (B_t 22), .ref (B_t 23), .ref (B_t 24), .ref (B_t 25), .int t_listedMany, .int t_listN, .int t_listWhat])), ((B_t 2), .inl (Y 0, 64, .inl t_table)), ((B_t 4), .inl (Y 0, 64, .inl t_twists))]

set_option maxHeartbeats 4000000 in
set_option maxRecDepth 100000 in
theorem wk_X11_line {p : Program} {l : Launch} {e : Env} {R : Room} {s : State} {m : MethodId} {args : Array Value} {below : List Frame} {meth : Method} {c : Code} {Q : State → Prop} {G : va_G} {Y : Nat → ClassId} {tF : Nat} {A : Nat → Prop} (h_t : Nat) (B_t : Nat → Nat) (t_thrown : Int32) (t_n : Int32) (t_modulus : Int32) (t_rows : Int32) (t_strands : Int32) (t_letters : Int32) (t_listedMany : Int32) (t_listN : Int32) (t_listWhat : Int32) (t_table : Nat → Int32) (t_twists : Nat → Int32) (x1 : Int32) (x2 : Int32) {K : Int32 → Int32 → Int32 → (Nat → Int32) → (Nat → Int32) → Prop} (hx : p.tables.exec = Jvm.exec) (hb : c.code = cX11_line) (hml : c.maxLocals = 5) (hown : s.vm.findClass RX11 = some m.cls) (hts : ∀ w ∈ wsX11_line, w.before args s = true) (hK : va_K G vwCl (tyL Y) s) (hE : Ev A tF s) (hA : ∀ q, s.heap.size ≤ q → A q) (hRf : 13 ≤ R.frames) (hRl : 273 ≤ R.locals) (hret : ∀ (r : Int32) (t_thrown : Int32) (t_n : Int32) (t_table : Nat → Int32) (t_twists : Nat → Int32) (H : Heap) (locs : List Loc) (ls : Array Slot) (pc : Nat), va_P G vwCl (w_X11_line Y h_t B_t t_thrown t_n t_modulus t_rows t_strands t_letters t_listedMany t_listN t_listWhat t_table t_twists) H → va_D A (w_X11_line Y h_t B_t t_thrown t_n t_modulus t_rows t_strands t_letters t_listedMany t_listN t_listWhat t_table t_twists) → va_S A s.heap H locs → zb r → K r t_thrown t_n t_table t_twists → decode cX11_line pc = .ok (.ireturn, 1) → W p l e R s m args below meth c H locs 0 0 Q (F0 m pc ls [.int r])) (hP : va_P G vwCl (w_X11_line Y h_t B_t t_thrown t_n t_modulus t_rows t_strands t_letters t_listedMany t_listN t_listWhat t_table t_twists) s.heap) (hD : va_D A (w_X11_line Y h_t B_t t_thrown t_n t_modulus t_rows t_strands t_letters t_listedMany t_listN t_listWhat t_table t_twists)) (h : pX11_line t_thrown t_n t_table t_twists x1 x2 K) : W p l e R s m args below meth c s.heap [] 0 0 Q (entryFrame m ([.ref h_t, .int x1, .int x2] : List Value).toArray 5) := by
  have inX11 : ∀ w ∈ u_ws RX11 TX11 29, w ∈ wsX11_line := by decide +kernel
  have hf13 := hts (.fieldLink RX11 13 "RackBenchModel" "table" "[I") (by decide +kernel)
  have hf83 := hts (.fieldLink RX11 83 "RackBenchModel" "thrown" "I") (by decide +kernel)
  have hcL93 := hts (.constantLong RX11 93 (8)) (by decide +kernel)
  have hl := lv_entry ([.ref h_t, .int x1, .int x2]) (n := 5) (Nat.le_of_ble_eq_true rfl)
  rw [lg_entry_eq]
  generalize (lg_sl ([.ref h_t, .int x1, .int x2]) ++ List.replicate (5 - (lg_sl ([.ref h_t, .int x1, .int x2])).length) Slot.unset).toArray = ls at hl ⊢
  have hl : lv_has ls 5 [(0, .ref h_t), (1, .int x1), (2, .int x2)] := hl
  generalize hH0 : s.heap = H at hP ⊢
  have hS : va_S A s.heap H [] := by rw [← hH0]; exact va_S.rf
  clear hH0
  generalize ([] : List Loc) = locs at hS ⊢
  have J46 : ∀ (x1 : Int32) (x2 : Int32) (t_thrown : Int32) (t_n : Int32) (t_table : Nat → Int32) (t_twists : Nat → Int32) (H : Heap) (locs : List Loc) (ls : Array Slot), pX11_line_46 K x1 x2 t_thrown t_n t_table t_twists → va_P G vwCl (w_X11_line Y h_t B_t t_thrown t_n t_modulus t_rows t_strands t_letters t_listedMany t_listN t_listWhat t_table t_twists) H → va_D A (w_X11_line Y h_t B_t t_thrown t_n t_modulus t_rows t_strands t_letters t_listedMany t_listN t_listWhat t_table t_twists) → va_S A s.heap H locs → lv_has ls 5 [(0, .ref h_t), (1, .int x1), (2, .int x2)] → W p l e R s m args below meth c H locs 0 0 Q (F0 m 46 ls []) := by
    intro x1 x2 t_thrown t_n t_table t_twists H locs ls h hP hD hS hl
    refine lv_aload_n hx hb dX11_line_46 rfl (lv_at hl 0 rfl) ?_
    refine lv_iload_n hx hb dX11_line_47 rfl (lv_at hl 1 rfl) ?_
    refine mc_vV ⟨hx, hb, hml, hown, hts⟩ hK hE hA hP hD hS (c_X11_sized l G Y tF H.size h_t B_t t_thrown t_n t_modulus t_rows t_strands t_letters t_listedMany t_listN t_listWhat t_twists x1 h) (cwV 1 hts gX11_line_X11_sized rfl rfl rfl (by decide +kernel) ⟨Nat.le_trans (by decide) hRf, Nat.le_trans (by decide) hRl⟩) (fun u => (w_X11_line Y h_t B_t t_thrown u.1 t_modulus t_rows t_strands t_letters t_listedMany t_listN t_listWhat t_table u.2)) [0, 2] [1] [1, 0, 2] rfl rfl rfl rfl (by decide) (fun _ => rfl) rfl 0 10 rfl rfl rfl rfl hl.1 rfl (Nat.le_of_ble_eq_true rfl) dX11_line_48 (fun u H locs h hP hD hS => ?_)
    obtain ⟨t_n_48, t_twists_48⟩ := u
    try dsimp only at h
    have hP : va_P G vwCl (w_X11_line Y h_t B_t t_thrown t_n_48 t_modulus t_rows t_strands t_letters t_listedMany t_listN t_listWhat t_table t_twists_48) H := hP
    have hD : va_D A (w_X11_line Y h_t B_t t_thrown t_n_48 t_modulus t_rows t_strands t_letters t_listedMany t_listN t_listWhat t_table t_twists_48) := hD
    refine lv_iconst (v := 0) hx hb dX11_line_51 (by decide) ?_
    refine lv_istore_n (lv' := [(3, .int (0 : Int32)), (0, .ref h_t), (1, .int x1), (2, .int x2)]) hx hb dX11_line_52 rfl hl (by decide) rfl (fun ls hl => ?_)
    obtain ⟨I53, m53, hI53, hB53⟩ := h
    have L53 : ∀ (x1 : Int32) (x2 : Int32) (t_thrown : Int32) (t_n : Int32) (t_twists : Nat → Int32) (I53 : Int32 → (Nat → Int32) → Prop) (m53 : Int32 → (Nat → Int32) → Nat), (∀ (x3 : Int32) (t_table : Nat → Int32), I53 x3 t_table → pX11_line_53 K x1 x2 t_thrown t_n t_twists x3 t_table (fun x3' t_table' => I53 x3' t_table' ∧ m53 x3' t_table' < m53 x3 t_table)) → ∀ (n : Nat) (x3 : Int32) (t_table : Nat → Int32) (H : Heap) (locs : List Loc) (ls : Array Slot), I53 x3 t_table → m53 x3 t_table < n → va_P G vwCl (w_X11_line Y h_t B_t t_thrown t_n t_modulus t_rows t_strands t_letters t_listedMany t_listN t_listWhat t_table t_twists) H → va_D A (w_X11_line Y h_t B_t t_thrown t_n t_modulus t_rows t_strands t_letters t_listedMany t_listN t_listWhat t_table t_twists) → va_S A s.heap H locs → lv_has ls 5 [(0, .ref h_t), (1, .int x1), (2, .int x2), (3, .int x3)] → W p l e R s m args below meth c H locs 0 0 Q (F0 m 53 ls []) := by
      intro x1 x2 t_thrown t_n t_twists I53 m53 hB53 n
      induction n with
      | zero => intro x3 t_table H locs ls _ hm; exact absurd hm (Nat.not_lt_zero _)
      | succ n ih =>
        intro x3 t_table H locs ls hI hm hP hD hS hl
        obtain ⟨R53, h, rec53⟩ : ∃ R53 : Int32 → (Nat → Int32) → Prop, pX11_line_53 K x1 x2 t_thrown t_n t_twists x3 t_table R53 ∧ ∀ (x3 : Int32) (t_table : Nat → Int32) (H : Heap) (locs : List Loc) (ls : Array Slot), R53 x3 t_table → va_P G vwCl (w_X11_line Y h_t B_t t_thrown t_n t_modulus t_rows t_strands t_letters t_listedMany t_listN t_listWhat t_table t_twists) H → va_D A (w_X11_line Y h_t B_t t_thrown t_n t_modulus t_rows t_strands t_letters t_listedMany t_listN t_listWhat t_table t_twists) → va_S A s.heap H locs → lv_has ls 5 [(0, .ref h_t), (1, .int x1), (2, .int x2), (3, .int x3)] → W p l e R s m args below meth c H locs 0 0 Q (F0 m 53 ls []) := ⟨_, hB53 x3 t_table hI, fun x3 t_table H locs ls hh hP hD hS hl => ih x3 t_table H locs ls hh.1 (Nat.lt_of_lt_of_le hh.2 (Nat.le_of_lt_succ hm)) hP hD hS hl⟩
        refine lv_iload_n hx hb dX11_line_53 rfl (lv_at hl 3 rfl) ?_
        refine lv_iload_n hx hb dX11_line_54 rfl (lv_at hl 1 rfl) ?_
        obtain ⟨ht, hf⟩ := h
        refine lv_icmp_ge (tgt := 105) hx hb dX11_line_55 (by decide) (fun c9 => ?_) (fun c9 => ?_)
        · have h := ht c9
          refine lv_iconst (v := 1) hx hb dX11_line_105 (by decide) ?_
          obtain ⟨hz, h⟩ := h
          exact hret (1 : Int32) t_thrown t_n t_table t_twists H locs ls _ hP hD hS hz h dX11_line_106
        · have h := hf c9
          refine lv_iconst (v := 0) hx hb dX11_line_58 (by decide) ?_
          refine lv_istore (lv' := [(4, .int (0 : Int32)), (0, .ref h_t), (1, .int x1), (2, .int x2), (3, .int x3)]) hx hb dX11_line_59 hl (by decide) rfl (fun ls hl => ?_)
          obtain ⟨I61, m61, hI61, hB61⟩ := h
          have L61 : ∀ (x3 : Int32) (I61 : Int32 → (Nat → Int32) → Prop) (m61 : Int32 → (Nat → Int32) → Nat), (∀ (x4 : Int32) (t_table : Nat → Int32), I61 x4 t_table → pX11_line_61 R53 K x1 x2 t_thrown t_n t_twists x3 x4 t_table (fun x4' t_table' => I61 x4' t_table' ∧ m61 x4' t_table' < m61 x4 t_table)) → ∀ (n : Nat) (x4 : Int32) (t_table : Nat → Int32) (H : Heap) (locs : List Loc) (ls : Array Slot), I61 x4 t_table → m61 x4 t_table < n → va_P G vwCl (w_X11_line Y h_t B_t t_thrown t_n t_modulus t_rows t_strands t_letters t_listedMany t_listN t_listWhat t_table t_twists) H → va_D A (w_X11_line Y h_t B_t t_thrown t_n t_modulus t_rows t_strands t_letters t_listedMany t_listN t_listWhat t_table t_twists) → va_S A s.heap H locs → lv_has ls 5 [(0, .ref h_t), (1, .int x1), (2, .int x2), (3, .int x3), (4, .int x4)] → W p l e R s m args below meth c H locs 0 0 Q (F0 m 61 ls []) := by
            intro x3 I61 m61 hB61 n
            induction n with
            | zero => intro x4 t_table H locs ls _ hm; exact absurd hm (Nat.not_lt_zero _)
            | succ n ih =>
              intro x4 t_table H locs ls hI hm hP hD hS hl
              obtain ⟨R61, h, rec61⟩ : ∃ R61 : Int32 → (Nat → Int32) → Prop, pX11_line_61 R53 K x1 x2 t_thrown t_n t_twists x3 x4 t_table R61 ∧ ∀ (x4 : Int32) (t_table : Nat → Int32) (H : Heap) (locs : List Loc) (ls : Array Slot), R61 x4 t_table → va_P G vwCl (w_X11_line Y h_t B_t t_thrown t_n t_modulus t_rows t_strands t_letters t_listedMany t_listN t_listWhat t_table t_twists) H → va_D A (w_X11_line Y h_t B_t t_thrown t_n t_modulus t_rows t_strands t_letters t_listedMany t_listN t_listWhat t_table t_twists) → va_S A s.heap H locs → lv_has ls 5 [(0, .ref h_t), (1, .int x1), (2, .int x2), (3, .int x3), (4, .int x4)] → W p l e R s m args below meth c H locs 0 0 Q (F0 m 61 ls []) := ⟨_, hB61 x4 t_table hI, fun x4 t_table H locs ls hh hP hD hS hl => ih x4 t_table H locs ls hh.1 (Nat.lt_of_lt_of_le hh.2 (Nat.le_of_lt_succ hm)) hP hD hS hl⟩
              refine lv_iload hx hb dX11_line_61 (lv_at hl 4 rfl) ?_
              refine lv_iload_n hx hb dX11_line_63 rfl (lv_at hl 1 rfl) ?_
              obtain ⟨ht, hf⟩ := h
              refine lv_icmp_ge (tgt := 99) hx hb dX11_line_64 (by decide) (fun c9 => ?_) (fun c9 => ?_)
              · have h := ht c9
                refine lv_iinc (v := (x3 + 1)) (lv' := [(3, .int (x3 + 1)), (0, .ref h_t), (1, .int x1), (2, .int x2), (4, .int x4)]) hx hb dX11_line_99 hl (k := 3) rfl rfl (by decide) rfl (fun ls hl => ?_)
                refine lv_goto (tgt := 53) hx hb dX11_line_102 (by decide) ?_
                exact rec53 (x3 + 1) t_table H locs ls h hP hD hS (lv_sub hl [1, 2, 3, 0] rfl)
              · have h := hf c9
                refine lv_aload_n hx hb dX11_line_67 rfl (lv_at hl 0 rfl) ?_
                refine va_get (D := G) (ci := 10) (v := .ref (B_t 2)) (C := RX11) (T := TX11) (N := 29) hx hb hts inX11 hown hK hP 0 rfl rfl 2 (by decide) hf13 (fun _ h9 => h9) rfl dX11_line_68 ?_
                refine lv_bipush (v := 8) hx hb dX11_line_71 (by decide) ?_
                refine lv_iload_n hx hb dX11_line_73 rfl (lv_at hl 3 rfl) ?_
                refine lv_imul hx hb dX11_line_74 ?_
                refine lv_iload hx hb dX11_line_75 (lv_at hl 4 rfl) ?_
                refine lv_iadd hx hb dX11_line_77 ?_
                refine lv_iconst (v := 1) hx hb dX11_line_78 (by decide) ?_
                refine lv_iload_n hx hb dX11_line_79 rfl (lv_at hl 2 rfl) ?_
                refine lv_isub hx hb dX11_line_80 ?_
                refine lv_iload_n hx hb dX11_line_81 rfl (lv_at hl 3 rfl) ?_
                refine lv_imul hx hb dX11_line_82 ?_
                refine lv_iload_n hx hb dX11_line_83 rfl (lv_at hl 2 rfl) ?_
                refine lv_iload hx hb dX11_line_84 (lv_at hl 4 rfl) ?_
                refine lv_imul hx hb dX11_line_86 ?_
                refine lv_iadd hx hb dX11_line_87 ?_
                refine lv_iload_n hx hb dX11_line_88 rfl (lv_at hl 1 rfl) ?_
                refine mc_iS ⟨hx, hb, hml, hown, hts⟩ hK hE hA hP hD hS (c_J9_floorMod_7cf53 l G Y tF H.size ((((1 : Int32) - x2) * x3) + (x2 * x4)) x1 h) (va_cwS 2 hts gX11_line_J9_floorMod_7cf53 rfl rfl rfl (by decide +kernel) ⟨Nat.le_trans (by decide) hRf, Nat.le_trans (by decide) hRl⟩) (fun u => (w_X11_line Y h_t B_t t_thrown t_n t_modulus t_rows t_strands t_letters t_listedMany t_listN t_listWhat t_table t_twists)) [] [0, 1, 2] [0, 1, 2] rfl rfl rfl rfl (by decide) (fun _ => rfl) rfl rfl hl.1 rfl (Nat.le_of_ble_eq_true rfl) dX11_line_89 (fun r89 u H locs h hP hD hS => ?_)
                try dsimp only at h
                have hP : va_P G vwCl (w_X11_line Y h_t B_t t_thrown t_n t_modulus t_rows t_strands t_letters t_listedMany t_listN t_listWhat t_table t_twists) H := hP
                have hD : va_D A (w_X11_line Y h_t B_t t_thrown t_n t_modulus t_rows t_strands t_letters t_listedMany t_listN t_listWhat t_table t_twists) := hD
                obtain ⟨hin, h⟩ := h
                refine va_iast hx hb hK hP hD hS 1 0 rfl rfl hin dX11_line_92 (fun H locs hP hD hS => ?_)
                have hP : va_P G vwCl (w_X11_line Y h_t B_t t_thrown t_n t_modulus t_rows t_strands t_letters t_listedMany t_listN t_listWhat (upd t_table (Int32.toNatClampNeg (((8 : Int32) * x3) + x4)) r89) t_twists) H := hP
                have hD : va_D A (w_X11_line Y h_t B_t t_thrown t_n t_modulus t_rows t_strands t_letters t_listedMany t_listN t_listWhat (upd t_table (Int32.toNatClampNeg (((8 : Int32) * x3) + x4)) r89) t_twists) := hD
                refine lv_iinc (v := (x4 + 1)) (lv' := [(4, .int (x4 + 1)), (0, .ref h_t), (1, .int x1), (2, .int x2), (3, .int x3)]) hx hb dX11_line_93 hl (k := 4) rfl rfl (by decide) rfl (fun ls hl => ?_)
                refine lv_goto (tgt := 61) hx hb dX11_line_96 (by decide) ?_
                exact rec61 (x4 + 1) (upd t_table (Int32.toNatClampNeg (((8 : Int32) * x3) + x4)) r89) H locs ls h hP hD hS (lv_sub hl [1, 2, 3, 4, 0] rfl)
          exact L61 x3 I61 m61 hB61 _ (0 : Int32) t_table H locs ls hI61 (Nat.lt_succ_self _) hP hD hS (lv_sub hl [1, 2, 3, 4, 0] rfl)
    exact L53 x1 x2 t_thrown t_n_48 t_twists_48 I53 m53 hB53 _ (0 : Int32) t_table H locs ls hI53 (Nat.lt_succ_self _) hP hD hS (lv_sub hl [1, 2, 3, 0] rfl)
  refine lv_aload_n hx hb dX11_line_0 rfl (lv_at hl 0 rfl) ?_
  refine lv_iconst (v := 0) hx hb dX11_line_1 (by decide) ?_
  refine va_put (D := G) (ci := 10) (v := .int (0 : Int32)) (ty := .int) (C := RX11) (T := TX11) (N := 29) hx hb hts inX11 tyX11 tyX11_ok nmX11 hown hK hP hD hS 0 rfl rfl 0 (by decide) hf83 (fun _ h9 => h9) rfl (by decide +kernel) rfl rfl (Nat.le_of_ble_eq_true rfl) dX11_line_2 (fun H locs hP hD hS => ?_)
  have hP : va_P G vwCl (w_X11_line Y h_t B_t (0 : Int32) t_n t_modulus t_rows t_strands t_letters t_listedMany t_listN t_listWhat t_table t_twists) H := hP
  have hD : va_D A (w_X11_line Y h_t B_t (0 : Int32) t_n t_modulus t_rows t_strands t_letters t_listedMany t_listN t_listWhat t_table t_twists) := hD
  refine lv_iload_n hx hb dX11_line_5 rfl (lv_at hl 1 rfl) ?_
  refine lv_i2l hx hb dX11_line_6 rfl ?_
  refine lv_lconst (v := 1) hx hb dX11_line_7 (by decide) ?_
  refine lv_ldc2 (v := 8) hx hb hown hcL93 dX11_line_8 ?_
  refine mc_iS ⟨hx, hb, hml, hown, hts⟩ hK hE hA hP hD hS (c_X11_in l G Y tF H.size (Int32.toInt64 x1) (1 : Int64) (8 : Int64) h) (va_cwS 3 hts gX11_line_X11_in rfl rfl rfl (by decide +kernel) ⟨Nat.le_trans (by decide) hRf, Nat.le_trans (by decide) hRl⟩) (fun u => (w_X11_line Y h_t B_t (0 : Int32) t_n t_modulus t_rows t_strands t_letters t_listedMany t_listN t_listWhat t_table t_twists)) [] [0, 1, 2] [0, 1, 2] rfl rfl rfl rfl (by decide) (fun _ => rfl) rfl rfl hl.1 rfl (Nat.le_of_ble_eq_true rfl) dX11_line_11 (fun r11 u H locs h hP hD hS => ?_)
  try dsimp only at h
  have hP : va_P G vwCl (w_X11_line Y h_t B_t (0 : Int32) t_n t_modulus t_rows t_strands t_letters t_listedMany t_listN t_listWhat t_table t_twists) H := hP
  have hD : va_D A (w_X11_line Y h_t B_t (0 : Int32) t_n t_modulus t_rows t_strands t_letters t_listedMany t_listN t_listWhat t_table t_twists) := hD
  obtain ⟨ht, hf⟩ := h
  refine lv_if_eq (tgt := 44) hx hb dX11_line_14 (by decide) (fun c9 => ?_) (fun c9 => ?_)
  · have h := ht c9
    refine lv_iconst (v := 0) hx hb dX11_line_44 (by decide) ?_
    obtain ⟨hz, h⟩ := h
    exact hret (0 : Int32) (0 : Int32) t_n t_table t_twists H locs ls _ hP hD hS hz h dX11_line_45
  · have h := hf c9
    refine lv_iload_n hx hb dX11_line_17 rfl (lv_at hl 2 rfl) ?_
    refine lv_i2l hx hb dX11_line_18 rfl ?_
    refine lv_lconst (v := 0) hx hb dX11_line_19 (by decide) ?_
    refine lv_iload_n hx hb dX11_line_20 rfl (lv_at hl 1 rfl) ?_
    refine lv_iconst (v := 1) hx hb dX11_line_21 (by decide) ?_
    refine lv_isub hx hb dX11_line_22 ?_
    refine lv_i2l hx hb dX11_line_23 rfl ?_
    refine mc_iS ⟨hx, hb, hml, hown, hts⟩ hK hE hA hP hD hS (c_X11_in l G Y tF H.size (Int32.toInt64 x2) (0 : Int64) (Int32.toInt64 (x1 - (1 : Int32))) h) (va_cwS 3 hts gX11_line_X11_in rfl rfl rfl (by decide +kernel) ⟨Nat.le_trans (by decide) hRf, Nat.le_trans (by decide) hRl⟩) (fun u => (w_X11_line Y h_t B_t (0 : Int32) t_n t_modulus t_rows t_strands t_letters t_listedMany t_listN t_listWhat t_table t_twists)) [] [0, 1, 2] [0, 1, 2] rfl rfl rfl rfl (by decide) (fun _ => rfl) rfl rfl hl.1 rfl (Nat.le_of_ble_eq_true rfl) dX11_line_24 (fun r24 u H locs h hP hD hS => ?_)
    try dsimp only at h
    have hP : va_P G vwCl (w_X11_line Y h_t B_t (0 : Int32) t_n t_modulus t_rows t_strands t_letters t_listedMany t_listN t_listWhat t_table t_twists) H := hP
    have hD : va_D A (w_X11_line Y h_t B_t (0 : Int32) t_n t_modulus t_rows t_strands t_letters t_listedMany t_listN t_listWhat t_table t_twists) := hD
    obtain ⟨ht, hf⟩ := h
    refine lv_if_eq (tgt := 44) hx hb dX11_line_27 (by decide) (fun c9 => ?_) (fun c9 => ?_)
    · have h := ht c9
      refine lv_iconst (v := 0) hx hb dX11_line_44 (by decide) ?_
      obtain ⟨hz, h⟩ := h
      exact hret (0 : Int32) (0 : Int32) t_n t_table t_twists H locs ls _ hP hD hS hz h dX11_line_45
    · have h := hf c9
      refine lv_iload_n hx hb dX11_line_30 rfl (lv_at hl 1 rfl) ?_
      refine lv_iconst (v := 1) hx hb dX11_line_31 (by decide) ?_
      obtain ⟨ht, hf⟩ := h
      refine lv_icmp_le (tgt := 46) hx hb dX11_line_32 (by decide) (fun c9 => ?_) (fun c9 => ?_)
      · have h := ht c9
        exact J46 x1 x2 (0 : Int32) t_n t_table t_twists H locs ls h hP hD hS (lv_sub hl [0, 1, 2] rfl)
      · have h := hf c9
        refine lv_iload_n hx hb dX11_line_35 rfl (lv_at hl 1 rfl) ?_
        refine lv_iload_n hx hb dX11_line_36 rfl (lv_at hl 2 rfl) ?_
        refine mc_iS ⟨hx, hb, hml, hown, hts⟩ hK hE hA hP hD hS (c_X11_common 12 l G Y tF H.size x1 x2 h) (va_cwS 2 hts gX11_line_X11_common rfl rfl rfl (by decide +kernel) ⟨Nat.le_trans (by decide) hRf, Nat.le_trans (by decide) hRl⟩) (fun u => (w_X11_line Y h_t B_t (0 : Int32) t_n t_modulus t_rows t_strands t_letters t_listedMany t_listN t_listWhat t_table t_twists)) [] [0, 1, 2] [0, 1, 2] rfl rfl rfl rfl (by decide) (fun _ => rfl) rfl rfl hl.1 rfl (Nat.le_of_ble_eq_true rfl) dX11_line_37 (fun r37 u H locs h hP hD hS => ?_)
        try dsimp only at h
        have hP : va_P G vwCl (w_X11_line Y h_t B_t (0 : Int32) t_n t_modulus t_rows t_strands t_letters t_listedMany t_listN t_listWhat t_table t_twists) H := hP
        have hD : va_D A (w_X11_line Y h_t B_t (0 : Int32) t_n t_modulus t_rows t_strands t_letters t_listedMany t_listN t_listWhat t_table t_twists) := hD
        refine lv_iconst (v := 1) hx hb dX11_line_40 (by decide) ?_
        obtain ⟨ht, hf⟩ := h
        refine lv_icmp_le (tgt := 46) hx hb dX11_line_41 (by decide) (fun c9 => ?_) (fun c9 => ?_)
        · have h := ht c9
          exact J46 x1 x2 (0 : Int32) t_n t_table t_twists H locs ls h hP hD hS (lv_sub hl [0, 1, 2] rfl)
        · have h := hf c9
          refine lv_iconst (v := 0) hx hb dX11_line_44 (by decide) ?_
          obtain ⟨hz, h⟩ := h
          exact hret (0 : Int32) (0 : Int32) t_n t_table t_twists H locs ls _ hP hD hS hz h dX11_line_45

set_option maxHeartbeats 4000000 in
set_option maxRecDepth 100000 in
theorem c_X11_line (l : Launch) (G : va_G) (Y : Nat → ClassId) (tF sz : Nat) (h_t : Nat) (B_t : Nat → Nat) (t_thrown : Int32) (t_n : Int32) (t_modulus : Int32) (t_rows : Int32) (t_strands : Int32) (t_letters : Int32) (t_listedMany : Int32) (t_listN : Int32) (t_listWhat : Int32) (t_table : Nat → Int32) (t_twists : Nat → Int32) (x1 : Int32) (x2 : Int32) {K : Int32 → Int32 → Int32 → (Nat → Int32) → (Nat → Int32) → Prop} (h : pX11_line t_thrown t_n t_table t_twists x1 x2 K) : Met l yX11_line wsX11_line ({ frames := 13, cells := 0, slots := 0, locals := 273 }) (PcM G Y tF sz (w_X11_line Y h_t B_t t_thrown t_n t_modulus t_rows t_strands t_letters t_listedMany t_listN t_listWhat t_table t_twists) [.ref h_t, .int x1, .int x2]) (va_Qi (fun (r : Int32) (u : Int32 × Int32 × (Nat → Int32) × (Nat → Int32)) => K r u.1 u.2.1 u.2.2.1 u.2.2.2) (fun u t => BM G Y (va_A (w_X11_line Y h_t B_t t_thrown t_n t_modulus t_rows t_strands t_letters t_listedMany t_listN t_listWhat t_table t_twists) sz) (w_X11_line Y h_t B_t u.1 u.2.1 t_modulus t_rows t_strands t_letters t_listedMany t_listN t_listWhat u.2.2.1 u.2.2.2) t) (va_A (w_X11_line Y h_t B_t t_thrown t_n t_modulus t_rows t_strands t_letters t_listedMany t_listN t_listWhat t_table t_twists) sz)) 0 0 (va_A (w_X11_line Y h_t B_t t_thrown t_n t_modulus t_rows t_strands t_letters t_listedMany t_listN t_listWhat t_table t_twists) sz) := by
  refine Met.ofW (cc := cX11_line) (maxL := 5) (ret := (some .boolean)) (by decide +kernel) rfl ?_
  intro p e s m args below meth c s₁ B hml hv
  obtain ⟨rfl, hsz, hP, hK, hD0, hE⟩ := hv
  have hts := atoms_spec (ws := wsX11_line) B.pre
  have hown : s.vm.findClass RX11 = some m.cls := findClass_of_methodNamed B.named
  have hlocks := B.notSynchronized
  subst hsz
  have hD := hD0.self (sz := s.heap.size)
  exact wk_X11_line h_t B_t t_thrown t_n t_modulus t_rows t_strands t_letters t_listedMany t_listN t_listWhat t_table t_twists x1 x2 B.exec B.bytes hml hown hts hK hE (fun q h => Or.inr h) (Nat.le_refl _) (Nat.le_refl _) (fun r t_thrown t_n t_table t_twists H locs ls pc hP hD hS hz hk hd => W.zret (v := r) B.exec B.bytes B.returns hz.n (fun t ht hW => ⟨⟨r, (t_thrown, t_n, t_table, t_twists), rfl, hk, by rw [ht]; exact hP, va_K.moved hW.alike hK, hD⟩, hS.F ht⟩) hS.2.2 hd) hP hD h

abbrev w_X11_factorial (Y : Nat → ClassId) : va_W := []

set_option maxHeartbeats 4000000 in
set_option maxRecDepth 100000 in
theorem wk_X11_factorial {p : Program} {l : Launch} {e : Env} {R : Room} {s : State} {m : MethodId} {args : Array Value} {below : List Frame} {meth : Method} {c : Code} {Q : State → Prop} {G : va_G} {Y : Nat → ClassId} {tF : Nat} {A : Nat → Prop} (x0 : Int32) {rec : Int32 → (Int32 → Prop) → Prop} {fB lB : Nat} (hRcF : fB + 1 ≤ R.frames) (hRcL : 8 + (1 + 11) + lB ≤ R.locals) (hrec : ∀ (sz : Nat) (x0 : Int32) {K : Int32 → Prop}, rec x0 K → Met l yX11_factorial wsX11_factorial ({ frames := fB, cells := 0, slots := 0, locals := lB }) (PcM G Y tF sz (w_X11_factorial Y) [.int x0]) (va_Qi (fun (r : Int32) (u : Unit) => K r ) (fun u t => BM G Y (va_A (w_X11_factorial Y) sz) (w_X11_factorial Y) t) (va_A (w_X11_factorial Y) sz)) 0 0 (va_A (w_X11_factorial Y) sz)) {K : Int32 → Prop} (hx : p.tables.exec = Jvm.exec) (hb : c.code = cX11_factorial) (hml : c.maxLocals = 1) (hown : s.vm.findClass RX11 = some m.cls) (hts : ∀ w ∈ wsX11_factorial, w.before args s = true) (hK : va_K G vwCl (tyL Y) s) (hE : Ev A tF s) (hA : ∀ q, s.heap.size ≤ q → A q) (hRf : 0 ≤ R.frames) (hRl : 0 ≤ R.locals) (hret : ∀ (r : Int32)  (H : Heap) (locs : List Loc) (ls : Array Slot) (pc : Nat), va_P G vwCl (w_X11_factorial Y) H → va_D A (w_X11_factorial Y) → va_S A s.heap H locs → K r → decode cX11_factorial pc = .ok (.ireturn, 1) → W p l e R s m args below meth c H locs 0 0 Q (F0 m pc ls [.int r])) (hP : va_P G vwCl (w_X11_factorial Y) s.heap) (hD : va_D A (w_X11_factorial Y)) (h : pX11_factorial_b rec x0 K) : W p l e R s m args below meth c s.heap [] 0 0 Q (entryFrame m ([.int x0] : List Value).toArray 1) := by
  have hl := lv_entry ([.int x0]) (n := 1) (Nat.le_of_ble_eq_true rfl)
  rw [lg_entry_eq]
  generalize (lg_sl ([.int x0]) ++ List.replicate (1 - (lg_sl ([.int x0])).length) Slot.unset).toArray = ls at hl ⊢
  have hl : lv_has ls 1 [(0, .int x0)] := hl
  generalize hH0 : s.heap = H at hP ⊢
  have hS : va_S A s.heap H [] := by rw [← hH0]; exact va_S.rf
  clear hH0
  generalize ([] : List Loc) = locs at hS ⊢
  refine lv_iload_n hx hb dX11_factorial_0 rfl (lv_at hl 0 rfl) ?_
  refine lv_iconst (v := 2) hx hb dX11_factorial_1 (by decide) ?_
  obtain ⟨ht, hf⟩ := h
  refine lv_icmp_ge (tgt := 9) hx hb dX11_factorial_2 (by decide) (fun c9 => ?_) (fun c9 => ?_)
  · have h := ht c9
    refine lv_iload_n hx hb dX11_factorial_9 rfl (lv_at hl 0 rfl) ?_
    refine lv_iload_n hx hb dX11_factorial_10 rfl (lv_at hl 0 rfl) ?_
    refine lv_iconst (v := 1) hx hb dX11_factorial_11 (by decide) ?_
    refine lv_isub hx hb dX11_factorial_12 ?_
    refine mc_iS ⟨hx, hb, hml, hown, hts⟩ hK hE hA hP hD hS (hrec H.size (x0 - (1 : Int32)) h) (va_cwS 1 hts gX11_factorial_X11_factorial rfl rfl rfl (by decide +kernel) ⟨hRcF, hRcL⟩) (fun u => (w_X11_factorial Y)) [] [] [] rfl rfl rfl rfl (by decide) (fun _ => rfl) rfl rfl hl.1 rfl (Nat.le_of_ble_eq_true rfl) dX11_factorial_13 (fun r13 u H locs h hP hD hS => ?_)
    try dsimp only at h
    have hP : va_P G vwCl (w_X11_factorial Y) H := hP
    have hD : va_D A (w_X11_factorial Y) := hD
    refine lv_imul hx hb dX11_factorial_16 ?_
    exact hret (x0 * r13)  H locs ls _ hP hD hS h dX11_factorial_17
  · have h := hf c9
    refine lv_iconst (v := 1) hx hb dX11_factorial_5 (by decide) ?_
    refine lv_goto (tgt := 17) hx hb dX11_factorial_6 (by decide) ?_
    exact hret (1 : Int32)  H locs ls _ hP hD hS h dX11_factorial_17

set_option maxHeartbeats 4000000 in
set_option maxRecDepth 100000 in
theorem cs_X11_factorial (l : Launch) (d : Nat) (G : va_G) (Y : Nat → ClassId) (tF sz : Nat) (x0 : Int32) {K : Int32 → Prop} (hrec : ∀ (sz : Nat) (x0 : Int32) {K : Int32 → Prop}, pX11_factorial d x0 K → Met l yX11_factorial wsX11_factorial ({ frames := (0 + d), cells := 0, slots := 0, locals := (0 + d * 20) }) (PcM G Y tF sz (w_X11_factorial Y) [.int x0]) (va_Qi (fun (r : Int32) (u : Unit) => K r ) (fun u t => BM G Y (va_A (w_X11_factorial Y) sz) (w_X11_factorial Y) t) (va_A (w_X11_factorial Y) sz)) 0 0 (va_A (w_X11_factorial Y) sz)) (h : pX11_factorial (d + 1) x0 K) : Met l yX11_factorial wsX11_factorial ({ frames := (0 + (d + 1)), cells := 0, slots := 0, locals := (0 + (d + 1) * 20) }) (PcM G Y tF sz (w_X11_factorial Y) [.int x0]) (va_Qi (fun (r : Int32) (u : Unit) => K r ) (fun u t => BM G Y (va_A (w_X11_factorial Y) sz) (w_X11_factorial Y) t) (va_A (w_X11_factorial Y) sz)) 0 0 (va_A (w_X11_factorial Y) sz) := by
  refine Met.ofW (cc := cX11_factorial) (maxL := 1) (ret := (some .int)) (by decide +kernel) rfl ?_
  intro p e s m args below meth c s₁ B hml hv
  obtain ⟨rfl, hsz, hP, hK, hD0, hE⟩ := hv
  have hts := atoms_spec (ws := wsX11_factorial) B.pre
  have hown : s.vm.findClass RX11 = some m.cls := findClass_of_methodNamed B.named
  have hlocks := B.notSynchronized
  subst hsz
  have hD := hD0.self (sz := s.heap.size)
  exact wk_X11_factorial x0 (rec := pX11_factorial d) (fB := (0 + d)) (lB := (0 + d * 20)) (by show _ ≤ _; simp only [headSpec]; omega) (by show _ ≤ _; simp only [headSpec]; omega) (fun sz x0 _ hh => hrec sz x0 hh) B.exec B.bytes hml hown hts hK hE (fun q h => Or.inr h) (by show _ ≤ _; simp only [headSpec]; omega) (by show _ ≤ _; simp only [headSpec]; omega) (fun r  H locs ls pc hP hD hS hk hd => W.iret (v := r) B.exec B.bytes B.returns (fun t ht hW => ⟨⟨r, (), rfl, hk, by rw [ht]; exact hP, va_K.moved hW.alike hK, hD⟩, hS.F ht⟩) hS.2.2 hd) hP hD h

theorem c_X11_factorial (d : Nat) (l : Launch) (G : va_G) (Y : Nat → ClassId) (tF sz : Nat) (x0 : Int32) {K : Int32 → Prop} (h : pX11_factorial d x0 K) : Met l yX11_factorial wsX11_factorial ({ frames := (0 + d), cells := 0, slots := 0, locals := (0 + d * 20) }) (PcM G Y tF sz (w_X11_factorial Y) [.int x0]) (va_Qi (fun (r : Int32) (u : Unit) => K r ) (fun u t => BM G Y (va_A (w_X11_factorial Y) sz) (w_X11_factorial Y) t) (va_A (w_X11_factorial Y) sz)) 0 0 (va_A (w_X11_factorial Y) sz) := by
  induction d generalizing sz x0 K with
  | zero => exact h.elim
  | succ d ih => exact cs_X11_factorial l d G Y tF sz x0 (fun sz x0 _ hh => ih sz x0 hh) h

abbrev w_X11_permutation (Y : Nat → ClassId) (h_p2 : Nat) (N_p2 : Nat) (p2 : Nat → Int32) : va_W := [(h_p2, .inl (Y 0, N_p2, .inl p2))]

set_option maxHeartbeats 4000000 in
set_option maxRecDepth 100000 in
theorem wk_X11_permutation {p : Program} {l : Launch} {e : Env} {R : Room} {s : State} {m : MethodId} {args : Array Value} {below : List Frame} {meth : Method} {c : Code} {Q : State → Prop} {G : va_G} {Y : Nat → ClassId} {tF : Nat} {A : Nat → Prop} (h_p2 : Nat) (N_p2 : Nat) (p2 : Nat → Int32) (x0 : Int32) (x1 : Int32) {K : (Nat → Int32) → Prop} (hx : p.tables.exec = Jvm.exec) (hb : c.code = cX11_permutation) (hml : c.maxLocals = 9) (hown : s.vm.findClass RX11 = some m.cls) (hts : ∀ w ∈ wsX11_permutation, w.before args s = true) (hK : va_K G vwCl (tyL Y) s) (hE : Ev A tF s) (hA : ∀ q, s.heap.size ≤ q → A q) (hRf : 11 ≤ R.frames) (hRl : 220 ≤ R.locals) (hret : ∀ (p2 : Nat → Int32) (H : Heap) (locs : List Loc) (ls : Array Slot) (pc : Nat), va_P G vwCl (w_X11_permutation Y h_p2 N_p2 p2) H → va_D A (w_X11_permutation Y h_p2 N_p2 p2) → va_S A s.heap H locs → K p2 → decode cX11_permutation pc = .ok (.return_, 1) → W p l e R s m args below meth c H locs 0 0 Q (F0 m pc ls [])) (hP : va_P G vwCl (w_X11_permutation Y h_p2 N_p2 p2) s.heap) (hD : va_D A (w_X11_permutation Y h_p2 N_p2 p2)) (h : pX11_permutation N_p2 p2 x0 x1 K) : W p l e R s m args below meth c s.heap [] 0 0 Q (entryFrame m ([.int x0, .int x1, .ref h_p2] : List Value).toArray 9) := by
  have hl := lv_entry ([.int x0, .int x1, .ref h_p2]) (n := 9) (Nat.le_of_ble_eq_true rfl)
  rw [lg_entry_eq]
  generalize (lg_sl ([.int x0, .int x1, .ref h_p2]) ++ List.replicate (9 - (lg_sl ([.int x0, .int x1, .ref h_p2])).length) Slot.unset).toArray = ls at hl ⊢
  have hl : lv_has ls 9 [(0, .int x0), (1, .int x1), (2, .ref h_p2)] := hl
  generalize hH0 : s.heap = H at hP ⊢
  have hS : va_S A s.heap H [] := by rw [← hH0]; exact va_S.rf
  clear hH0
  generalize ([] : List Loc) = locs at hS ⊢
  refine lv_iload_n hx hb dX11_permutation_0 rfl (lv_at hl 1 rfl) ?_
  refine lv_istore_n (lv' := [(3, .int x1), (0, .int x0), (1, .int x1), (2, .ref h_p2)]) hx hb dX11_permutation_1 rfl hl (by decide) rfl (fun ls hl => ?_)
  refine lv_iconst (v := 0) hx hb dX11_permutation_2 (by decide) ?_
  refine lv_istore (lv' := [(4, .int (0 : Int32)), (3, .int x1), (0, .int x0), (1, .int x1), (2, .ref h_p2)]) hx hb dX11_permutation_3 hl (by decide) rfl (fun ls hl => ?_)
  refine lv_iconst (v := 0) hx hb dX11_permutation_5 (by decide) ?_
  refine lv_istore (lv' := [(5, .int (0 : Int32)), (4, .int (0 : Int32)), (3, .int x1), (0, .int x0), (1, .int x1), (2, .ref h_p2)]) hx hb dX11_permutation_6 hl (by decide) rfl (fun ls hl => ?_)
  obtain ⟨I8, m8, hI8, hB8⟩ := h
  have L8 : ∀ (x0 : Int32) (I8 : Int32 → Int32 → Int32 → (Nat → Int32) → Prop) (m8 : Int32 → Int32 → Int32 → (Nat → Int32) → Nat), (∀ (x3 : Int32) (x4 : Int32) (x5 : Int32) (p2 : Nat → Int32), I8 x3 x4 x5 p2 → pX11_permutation_8 N_p2 K x0 x3 x4 x5 p2 (fun x3' x4' x5' p2' => I8 x3' x4' x5' p2' ∧ m8 x3' x4' x5' p2' < m8 x3 x4 x5 p2)) → ∀ (n : Nat) (x3 : Int32) (x4 : Int32) (x5 : Int32) (p2 : Nat → Int32) (H : Heap) (locs : List Loc) (ls : Array Slot), I8 x3 x4 x5 p2 → m8 x3 x4 x5 p2 < n → va_P G vwCl (w_X11_permutation Y h_p2 N_p2 p2) H → va_D A (w_X11_permutation Y h_p2 N_p2 p2) → va_S A s.heap H locs → lv_has ls 9 [(0, .int x0), (2, .ref h_p2), (3, .int x3), (4, .int x4), (5, .int x5)] → W p l e R s m args below meth c H locs 0 0 Q (F0 m 8 ls []) := by
    intro x0 I8 m8 hB8 n
    induction n with
    | zero => intro x3 x4 x5 p2 H locs ls _ hm; exact absurd hm (Nat.not_lt_zero _)
    | succ n ih =>
      intro x3 x4 x5 p2 H locs ls hI hm hP hD hS hl
      obtain ⟨R8, h, rec8⟩ : ∃ R8 : Int32 → Int32 → Int32 → (Nat → Int32) → Prop, pX11_permutation_8 N_p2 K x0 x3 x4 x5 p2 R8 ∧ ∀ (x3 : Int32) (x4 : Int32) (x5 : Int32) (p2 : Nat → Int32) (H : Heap) (locs : List Loc) (ls : Array Slot), R8 x3 x4 x5 p2 → va_P G vwCl (w_X11_permutation Y h_p2 N_p2 p2) H → va_D A (w_X11_permutation Y h_p2 N_p2 p2) → va_S A s.heap H locs → lv_has ls 9 [(0, .int x0), (2, .ref h_p2), (3, .int x3), (4, .int x4), (5, .int x5)] → W p l e R s m args below meth c H locs 0 0 Q (F0 m 8 ls []) := ⟨_, hB8 x3 x4 x5 p2 hI, fun x3 x4 x5 p2 H locs ls hh hP hD hS hl => ih x3 x4 x5 p2 H locs ls hh.1 (Nat.lt_of_lt_of_le hh.2 (Nat.le_of_lt_succ hm)) hP hD hS hl⟩
      refine lv_iload hx hb dX11_permutation_8 (lv_at hl 4 rfl) ?_
      refine lv_iload_n hx hb dX11_permutation_10 rfl (lv_at hl 0 rfl) ?_
      obtain ⟨ht, hf⟩ := h
      refine lv_icmp_ge (tgt := 103) hx hb dX11_permutation_11 (by decide) (fun c9 => ?_) (fun c9 => ?_)
      · have h := ht c9
        exact hret p2 H locs ls _ hP hD hS h dX11_permutation_103
      · have h := hf c9
        refine lv_iload_n hx hb dX11_permutation_14 rfl (lv_at hl 0 rfl) ?_
        refine lv_iconst (v := 1) hx hb dX11_permutation_15 (by decide) ?_
        refine lv_isub hx hb dX11_permutation_16 ?_
        refine lv_iload hx hb dX11_permutation_17 (lv_at hl 4 rfl) ?_
        refine lv_isub hx hb dX11_permutation_19 ?_
        refine mc_iS ⟨hx, hb, hml, hown, hts⟩ hK hE hA hP hD hS (c_X11_factorial 10 l G Y tF H.size ((x0 - (1 : Int32)) - x5) h) (va_cwS 1 hts gX11_permutation_X11_factorial rfl rfl rfl (by decide +kernel) ⟨Nat.le_trans (by decide) hRf, Nat.le_trans (by decide) hRl⟩) (fun u => (w_X11_permutation Y h_p2 N_p2 p2)) [] [0] [0] rfl rfl rfl rfl (by decide) (fun _ => rfl) rfl rfl hl.1 rfl (Nat.le_of_ble_eq_true rfl) dX11_permutation_20 (fun r20 u H locs h hP hD hS => ?_)
        try dsimp only at h
        have hP : va_P G vwCl (w_X11_permutation Y h_p2 N_p2 p2) H := hP
        have hD : va_D A (w_X11_permutation Y h_p2 N_p2 p2) := hD
        refine lv_istore (lv' := [(6, .int r20), (0, .int x0), (2, .ref h_p2), (3, .int x3), (4, .int x4), (5, .int x5)]) hx hb dX11_permutation_23 hl (by decide) rfl (fun ls hl => ?_)
        refine lv_iload_n hx hb dX11_permutation_25 rfl (lv_at hl 3 rfl) ?_
        refine lv_iload hx hb dX11_permutation_26 (lv_at hl 0 rfl) ?_
        obtain ⟨hne, h⟩ := h
        refine lv_idiv hx hb dX11_permutation_28 hne ?_
        refine lv_istore (lv' := [(7, .int (x3 / r20)), (6, .int r20), (0, .int x0), (2, .ref h_p2), (3, .int x3), (4, .int x4), (5, .int x5)]) hx hb dX11_permutation_29 hl (by decide) rfl (fun ls hl => ?_)
        refine lv_iload_n hx hb dX11_permutation_31 rfl (lv_at hl 4 rfl) ?_
        refine lv_iload hx hb dX11_permutation_32 (lv_at hl 1 rfl) ?_
        obtain ⟨hne, h⟩ := h
        refine lv_irem hx hb dX11_permutation_34 hne ?_
        refine lv_istore_n (lv' := [(3, .int (x3 - x3 / r20 * r20)), (7, .int (x3 / r20)), (6, .int r20), (0, .int x0), (2, .ref h_p2), (4, .int x4), (5, .int x5)]) hx hb dX11_permutation_35 rfl hl (by decide) rfl (fun ls hl => ?_)
        refine lv_iconst (v := 0) hx hb dX11_permutation_36 (by decide) ?_
        refine lv_istore (lv' := [(8, .int (0 : Int32)), (3, .int (x3 - x3 / r20 * r20)), (7, .int (x3 / r20)), (6, .int r20), (0, .int x0), (2, .ref h_p2), (4, .int x4), (5, .int x5)]) hx hb dX11_permutation_37 hl (by decide) rfl (fun ls hl => ?_)
        obtain ⟨I39, m39, hI39, hB39⟩ := h
        have L39 : ∀ (x3 : Int32) (x4 : Int32) (x5 : Int32) (p2 : Nat → Int32) (I39 : Int32 → Int32 → Prop) (m39 : Int32 → Int32 → Nat), (∀ (x7 : Int32) (x8 : Int32), I39 x7 x8 → pX11_permutation_39 N_p2 R8 K x0 x3 x4 x5 p2 x7 x8 (fun x7' x8' => I39 x7' x8' ∧ m39 x7' x8' < m39 x7 x8)) → ∀ (n : Nat) (x7 : Int32) (x8 : Int32) (H : Heap) (locs : List Loc) (ls : Array Slot), I39 x7 x8 → m39 x7 x8 < n → va_P G vwCl (w_X11_permutation Y h_p2 N_p2 p2) H → va_D A (w_X11_permutation Y h_p2 N_p2 p2) → va_S A s.heap H locs → lv_has ls 9 [(0, .int x0), (2, .ref h_p2), (3, .int x3), (4, .int x4), (5, .int x5), (7, .int x7), (8, .int x8)] → W p l e R s m args below meth c H locs 0 0 Q (F0 m 39 ls []) := by
          intro x3 x4 x5 p2 I39 m39 hB39 n
          induction n with
          | zero => intro x7 x8 H locs ls _ hm; exact absurd hm (Nat.not_lt_zero _)
          | succ n ih =>
            intro x7 x8 H locs ls hI hm hP hD hS hl
            obtain ⟨R39, h, rec39⟩ : ∃ R39 : Int32 → Int32 → Prop, pX11_permutation_39 N_p2 R8 K x0 x3 x4 x5 p2 x7 x8 R39 ∧ ∀ (x7 : Int32) (x8 : Int32) (H : Heap) (locs : List Loc) (ls : Array Slot), R39 x7 x8 → va_P G vwCl (w_X11_permutation Y h_p2 N_p2 p2) H → va_D A (w_X11_permutation Y h_p2 N_p2 p2) → va_S A s.heap H locs → lv_has ls 9 [(0, .int x0), (2, .ref h_p2), (3, .int x3), (4, .int x4), (5, .int x5), (7, .int x7), (8, .int x8)] → W p l e R s m args below meth c H locs 0 0 Q (F0 m 39 ls []) := ⟨_, hB39 x7 x8 hI, fun x7 x8 H locs ls hh hP hD hS hl => ih x7 x8 H locs ls hh.1 (Nat.lt_of_lt_of_le hh.2 (Nat.le_of_lt_succ hm)) hP hD hS hl⟩
            have J55 : ∀ (x7 : Int32) (x8 : Int32) (H : Heap) (locs : List Loc) (ls : Array Slot), pX11_permutation_55 N_p2 R8 R39 K x0 x3 x4 x5 p2 x7 x8 → va_P G vwCl (w_X11_permutation Y h_p2 N_p2 p2) H → va_D A (w_X11_permutation Y h_p2 N_p2 p2) → va_S A s.heap H locs → lv_has ls 9 [(0, .int x0), (2, .ref h_p2), (3, .int x3), (4, .int x4), (5, .int x5), (7, .int x7), (8, .int x8)] → W p l e R s m args below meth c H locs 0 0 Q (F0 m 55 ls []) := by
              intro x7 x8 H locs ls h hP hD hS hl
              refine lv_iload hx hb dX11_permutation_55 (lv_at hl 5 rfl) ?_
              refine lv_iload hx hb dX11_permutation_57 (lv_at hl 3 rfl) ?_
              refine lv_iload hx hb dX11_permutation_59 (lv_at hl 6 rfl) ?_
              refine lv_ishr hx hb dX11_permutation_61 ?_
              refine lv_iconst (v := 1) hx hb dX11_permutation_62 (by decide) ?_
              refine lv_iand hx hb dX11_permutation_63 ?_
              refine lv_iconst (v := 1) hx hb dX11_permutation_64 (by decide) ?_
              obtain ⟨ht, hf⟩ := h
              refine lv_icmp_ne (tgt := 72) hx hb dX11_permutation_65 (by decide) (fun c9 => ?_) (fun c9 => ?_)
              · have h := ht c9
                refine lv_iconst (v := 1) hx hb dX11_permutation_72 (by decide) ?_
                refine lv_isub hx hb dX11_permutation_73 ?_
                refine lv_istore (lv' := [(7, .int (x7 - (1 : Int32))), (0, .int x0), (2, .ref h_p2), (3, .int x3), (4, .int x4), (5, .int x5), (8, .int x8)]) hx hb dX11_permutation_74 hl (by decide) rfl (fun ls hl => ?_)
                refine lv_iinc (v := (x8 + 1)) (lv' := [(8, .int (x8 + 1)), (7, .int (x7 - (1 : Int32))), (0, .int x0), (2, .ref h_p2), (3, .int x3), (4, .int x4), (5, .int x5)]) hx hb dX11_permutation_76 hl (k := 6) rfl rfl (by decide) rfl (fun ls hl => ?_)
                refine lv_goto (tgt := 39) hx hb dX11_permutation_79 (by decide) ?_
                exact rec39 (x7 - (1 : Int32)) (x8 + 1) H locs ls h hP hD hS (lv_sub hl [2, 3, 4, 5, 6, 1, 0] rfl)
              · have h := hf c9
                refine lv_iconst (v := 0) hx hb dX11_permutation_68 (by decide) ?_
                refine lv_goto (tgt := 73) hx hb dX11_permutation_69 (by decide) ?_
                refine lv_isub hx hb dX11_permutation_73 ?_
                refine lv_istore (lv' := [(7, .int (x7 - (0 : Int32))), (0, .int x0), (2, .ref h_p2), (3, .int x3), (4, .int x4), (5, .int x5), (8, .int x8)]) hx hb dX11_permutation_74 hl (by decide) rfl (fun ls hl => ?_)
                refine lv_iinc (v := (x8 + 1)) (lv' := [(8, .int (x8 + 1)), (7, .int (x7 - (0 : Int32))), (0, .int x0), (2, .ref h_p2), (3, .int x3), (4, .int x4), (5, .int x5)]) hx hb dX11_permutation_76 hl (k := 6) rfl rfl (by decide) rfl (fun ls hl => ?_)
                refine lv_goto (tgt := 39) hx hb dX11_permutation_79 (by decide) ?_
                exact rec39 (x7 - (0 : Int32)) (x8 + 1) H locs ls h hP hD hS (lv_sub hl [2, 3, 4, 5, 6, 1, 0] rfl)
            refine lv_iload hx hb dX11_permutation_39 (lv_at hl 3 rfl) ?_
            refine lv_iload hx hb dX11_permutation_41 (lv_at hl 6 rfl) ?_
            refine lv_ishr hx hb dX11_permutation_43 ?_
            refine lv_iconst (v := 1) hx hb dX11_permutation_44 (by decide) ?_
            refine lv_iand hx hb dX11_permutation_45 ?_
            refine lv_iconst (v := 1) hx hb dX11_permutation_46 (by decide) ?_
            obtain ⟨ht, hf⟩ := h
            refine lv_icmp_eq (tgt := 55) hx hb dX11_permutation_47 (by decide) (fun c9 => ?_) (fun c9 => ?_)
            · have h := ht c9
              exact J55 x7 x8 H locs ls h hP hD hS (lv_sub hl [0, 1, 2, 3, 4, 5, 6] rfl)
            · have h := hf c9
              refine lv_iload hx hb dX11_permutation_50 (lv_at hl 5 rfl) ?_
              obtain ⟨ht, hf⟩ := h
              refine lv_if_le (tgt := 82) hx hb dX11_permutation_52 (by decide) (fun c9 => ?_) (fun c9 => ?_)
              · have h := ht c9
                refine lv_aload_n hx hb dX11_permutation_82 rfl (lv_at hl 1 rfl) ?_
                refine lv_iload hx hb dX11_permutation_83 (lv_at hl 4 rfl) ?_
                refine lv_iload hx hb dX11_permutation_85 (lv_at hl 6 rfl) ?_
                obtain ⟨hin, h⟩ := h
                refine va_iast hx hb hK hP hD hS 0 0 rfl rfl hin dX11_permutation_87 (fun H locs hP hD hS => ?_)
                have hP : va_P G vwCl (w_X11_permutation Y h_p2 N_p2 (upd p2 (Int32.toNatClampNeg x5) x8)) H := hP
                have hD : va_D A (w_X11_permutation Y h_p2 N_p2 (upd p2 (Int32.toNatClampNeg x5) x8)) := hD
                refine lv_iload hx hb dX11_permutation_88 (lv_at hl 3 rfl) ?_
                refine lv_iconst (v := 1) hx hb dX11_permutation_90 (by decide) ?_
                refine lv_iload hx hb dX11_permutation_91 (lv_at hl 6 rfl) ?_
                refine lv_ishl hx hb dX11_permutation_93 ?_
                refine lv_ior hx hb dX11_permutation_94 ?_
                refine lv_istore (lv' := [(4, .int (x4 ||| ((1 : Int32) <<< (x8 &&& 31)))), (0, .int x0), (2, .ref h_p2), (3, .int x3), (5, .int x5), (7, .int x7), (8, .int x8)]) hx hb dX11_permutation_95 hl (by decide) rfl (fun ls hl => ?_)
                refine lv_iinc (v := (x5 + 1)) (lv' := [(5, .int (x5 + 1)), (4, .int (x4 ||| ((1 : Int32) <<< (x8 &&& 31)))), (0, .int x0), (2, .ref h_p2), (3, .int x3), (7, .int x7), (8, .int x8)]) hx hb dX11_permutation_97 hl (k := 4) rfl rfl (by decide) rfl (fun ls hl => ?_)
                refine lv_goto (tgt := 8) hx hb dX11_permutation_100 (by decide) ?_
                exact rec8 x3 (x4 ||| ((1 : Int32) <<< (x8 &&& 31))) (x5 + 1) (upd p2 (Int32.toNatClampNeg x5) x8) H locs ls h hP hD hS (lv_sub hl [2, 3, 4, 1, 0] rfl)
              · have h := hf c9
                exact J55 x7 x8 H locs ls h hP hD hS (lv_sub hl [0, 1, 2, 3, 4, 5, 6] rfl)
        exact L39 (x3 - x3 / r20 * r20) x4 x5 p2 I39 m39 hB39 _ (x3 / r20) (0 : Int32) H locs ls hI39 (Nat.lt_succ_self _) hP hD hS (lv_sub hl [4, 5, 1, 6, 7, 2, 0] rfl)
  exact L8 x0 I8 m8 hB8 _ x1 (0 : Int32) (0 : Int32) p2 H locs ls hI8 (Nat.lt_succ_self _) hP hD hS (lv_sub hl [3, 5, 2, 1, 0] rfl)

set_option maxHeartbeats 4000000 in
set_option maxRecDepth 100000 in
theorem c_X11_permutation (l : Launch) (G : va_G) (Y : Nat → ClassId) (tF sz : Nat) (h_p2 : Nat) (N_p2 : Nat) (p2 : Nat → Int32) (x0 : Int32) (x1 : Int32) {K : (Nat → Int32) → Prop} (h : pX11_permutation N_p2 p2 x0 x1 K) : Met l yX11_permutation wsX11_permutation ({ frames := 11, cells := 0, slots := 0, locals := 220 }) (PcM G Y tF sz (w_X11_permutation Y h_p2 N_p2 p2) [.int x0, .int x1, .ref h_p2]) (va_Qv (fun u : (Nat → Int32) => K u) (fun u t => BM G Y (va_A (w_X11_permutation Y h_p2 N_p2 p2) sz) (w_X11_permutation Y h_p2 N_p2 u) t) (va_A (w_X11_permutation Y h_p2 N_p2 p2) sz)) 0 0 (va_A (w_X11_permutation Y h_p2 N_p2 p2) sz) := by
  refine Met.ofW (cc := cX11_permutation) (maxL := 9) (ret := none) (by decide +kernel) rfl ?_
  intro p e s m args below meth c s₁ B hml hv
  obtain ⟨rfl, hsz, hP, hK, hD0, hE⟩ := hv
  have hts := atoms_spec (ws := wsX11_permutation) B.pre
  have hown : s.vm.findClass RX11 = some m.cls := findClass_of_methodNamed B.named
  have hlocks := B.notSynchronized
  subst hsz
  have hD := hD0.self (sz := s.heap.size)
  exact wk_X11_permutation h_p2 N_p2 p2 x0 x1 B.exec B.bytes hml hown hts hK hE (fun q h => Or.inr h) (Nat.le_refl _) (Nat.le_refl _) (fun p2 H locs ls pc hP hD hS hk hd => W.vret B.exec B.bytes B.returns (fun t ht hW => ⟨⟨p2, rfl, hk, by rw [ht]; exact hP, va_K.moved hW.alike hK, hD⟩, hS.F ht⟩) hS.2.2 hd) hP hD h

abbrev w_X11_numberOf (Y : Nat → ClassId) (h_p1 : Nat) (N_p1 : Nat) (p1 : Nat → Int32) : va_W := [(h_p1, .inl (Y 0, N_p1, .inl p1))]

set_option maxHeartbeats 4000000 in
set_option maxRecDepth 100000 in
theorem wk_X11_numberOf {p : Program} {l : Launch} {e : Env} {R : Room} {s : State} {m : MethodId} {args : Array Value} {below : List Frame} {meth : Method} {c : Code} {Q : State → Prop} {G : va_G} {Y : Nat → ClassId} {tF : Nat} {A : Nat → Prop} (h_p1 : Nat) (N_p1 : Nat) (p1 : Nat → Int32) (x0 : Int32) {K : Int32 → Prop} (hx : p.tables.exec = Jvm.exec) (hb : c.code = cX11_numberOf) (hml : c.maxLocals = 6) (hown : s.vm.findClass RX11 = some m.cls) (hts : ∀ w ∈ wsX11_numberOf, w.before args s = true) (hK : va_K G vwCl (tyL Y) s) (hE : Ev A tF s) (hA : ∀ q, s.heap.size ≤ q → A q) (hRf : 11 ≤ R.frames) (hRl : 220 ≤ R.locals) (hret : ∀ (r : Int32)  (H : Heap) (locs : List Loc) (ls : Array Slot) (pc : Nat), va_P G vwCl (w_X11_numberOf Y h_p1 N_p1 p1) H → va_D A (w_X11_numberOf Y h_p1 N_p1 p1) → va_S A s.heap H locs → K r → decode cX11_numberOf pc = .ok (.ireturn, 1) → W p l e R s m args below meth c H locs 0 0 Q (F0 m pc ls [.int r])) (hP : va_P G vwCl (w_X11_numberOf Y h_p1 N_p1 p1) s.heap) (hD : va_D A (w_X11_numberOf Y h_p1 N_p1 p1)) (h : pX11_numberOf N_p1 p1 x0 K) : W p l e R s m args below meth c s.heap [] 0 0 Q (entryFrame m ([.int x0, .ref h_p1] : List Value).toArray 6) := by
  have hl := lv_entry ([.int x0, .ref h_p1]) (n := 6) (Nat.le_of_ble_eq_true rfl)
  rw [lg_entry_eq]
  generalize (lg_sl ([.int x0, .ref h_p1]) ++ List.replicate (6 - (lg_sl ([.int x0, .ref h_p1])).length) Slot.unset).toArray = ls at hl ⊢
  have hl : lv_has ls 6 [(0, .int x0), (1, .ref h_p1)] := hl
  generalize hH0 : s.heap = H at hP ⊢
  have hS : va_S A s.heap H [] := by rw [← hH0]; exact va_S.rf
  clear hH0
  generalize ([] : List Loc) = locs at hS ⊢
  refine lv_iconst (v := 0) hx hb dX11_numberOf_0 (by decide) ?_
  refine lv_istore_n (lv' := [(2, .int (0 : Int32)), (0, .int x0), (1, .ref h_p1)]) hx hb dX11_numberOf_1 rfl hl (by decide) rfl (fun ls hl => ?_)
  refine lv_iconst (v := 0) hx hb dX11_numberOf_2 (by decide) ?_
  refine lv_istore_n (lv' := [(3, .int (0 : Int32)), (2, .int (0 : Int32)), (0, .int x0), (1, .ref h_p1)]) hx hb dX11_numberOf_3 rfl hl (by decide) rfl (fun ls hl => ?_)
  obtain ⟨I4, m4, hI4, hB4⟩ := h
  have L4 : ∀ (x0 : Int32) (I4 : Int32 → Int32 → Prop) (m4 : Int32 → Int32 → Nat), (∀ (x2 : Int32) (x3 : Int32), I4 x2 x3 → pX11_numberOf_4 N_p1 p1 K x0 x2 x3 (fun x2' x3' => I4 x2' x3' ∧ m4 x2' x3' < m4 x2 x3)) → ∀ (n : Nat) (x2 : Int32) (x3 : Int32) (H : Heap) (locs : List Loc) (ls : Array Slot), I4 x2 x3 → m4 x2 x3 < n → va_P G vwCl (w_X11_numberOf Y h_p1 N_p1 p1) H → va_D A (w_X11_numberOf Y h_p1 N_p1 p1) → va_S A s.heap H locs → lv_has ls 6 [(0, .int x0), (1, .ref h_p1), (2, .int x2), (3, .int x3)] → W p l e R s m args below meth c H locs 0 0 Q (F0 m 4 ls []) := by
    intro x0 I4 m4 hB4 n
    induction n with
    | zero => intro x2 x3 H locs ls _ hm; exact absurd hm (Nat.not_lt_zero _)
    | succ n ih =>
      intro x2 x3 H locs ls hI hm hP hD hS hl
      obtain ⟨R4, h, rec4⟩ : ∃ R4 : Int32 → Int32 → Prop, pX11_numberOf_4 N_p1 p1 K x0 x2 x3 R4 ∧ ∀ (x2 : Int32) (x3 : Int32) (H : Heap) (locs : List Loc) (ls : Array Slot), R4 x2 x3 → va_P G vwCl (w_X11_numberOf Y h_p1 N_p1 p1) H → va_D A (w_X11_numberOf Y h_p1 N_p1 p1) → va_S A s.heap H locs → lv_has ls 6 [(0, .int x0), (1, .ref h_p1), (2, .int x2), (3, .int x3)] → W p l e R s m args below meth c H locs 0 0 Q (F0 m 4 ls []) := ⟨_, hB4 x2 x3 hI, fun x2 x3 H locs ls hh hP hD hS hl => ih x2 x3 H locs ls hh.1 (Nat.lt_of_lt_of_le hh.2 (Nat.le_of_lt_succ hm)) hP hD hS hl⟩
      refine lv_iload_n hx hb dX11_numberOf_4 rfl (lv_at hl 3 rfl) ?_
      refine lv_iload_n hx hb dX11_numberOf_5 rfl (lv_at hl 0 rfl) ?_
      obtain ⟨ht, hf⟩ := h
      refine lv_icmp_ge (tgt := 69) hx hb dX11_numberOf_6 (by decide) (fun c9 => ?_) (fun c9 => ?_)
      · have h := ht c9
        refine lv_iload_n hx hb dX11_numberOf_69 rfl (lv_at hl 2 rfl) ?_
        exact hret x2  H locs ls _ hP hD hS h dX11_numberOf_70
      · have h := hf c9
        refine lv_iconst (v := 0) hx hb dX11_numberOf_9 (by decide) ?_
        refine lv_istore (lv' := [(4, .int (0 : Int32)), (0, .int x0), (1, .ref h_p1), (2, .int x2), (3, .int x3)]) hx hb dX11_numberOf_10 hl (by decide) rfl (fun ls hl => ?_)
        refine lv_iload_n hx hb dX11_numberOf_12 rfl (lv_at hl 4 rfl) ?_
        refine lv_iconst (v := 1) hx hb dX11_numberOf_13 (by decide) ?_
        refine lv_iadd hx hb dX11_numberOf_14 ?_
        refine lv_istore (lv' := [(5, .int (x3 + (1 : Int32))), (4, .int (0 : Int32)), (0, .int x0), (1, .ref h_p1), (2, .int x2), (3, .int x3)]) hx hb dX11_numberOf_15 hl (by decide) rfl (fun ls hl => ?_)
        obtain ⟨I17, m17, hI17, hB17⟩ := h
        have L17 : ∀ (x2 : Int32) (x3 : Int32) (I17 : Int32 → Int32 → Prop) (m17 : Int32 → Int32 → Nat), (∀ (x4 : Int32) (x5 : Int32), I17 x4 x5 → pX11_numberOf_17 N_p1 p1 R4 K x0 x2 x3 x4 x5 (fun x4' x5' => I17 x4' x5' ∧ m17 x4' x5' < m17 x4 x5)) → ∀ (n : Nat) (x4 : Int32) (x5 : Int32) (H : Heap) (locs : List Loc) (ls : Array Slot), I17 x4 x5 → m17 x4 x5 < n → va_P G vwCl (w_X11_numberOf Y h_p1 N_p1 p1) H → va_D A (w_X11_numberOf Y h_p1 N_p1 p1) → va_S A s.heap H locs → lv_has ls 6 [(0, .int x0), (1, .ref h_p1), (2, .int x2), (3, .int x3), (4, .int x4), (5, .int x5)] → W p l e R s m args below meth c H locs 0 0 Q (F0 m 17 ls []) := by
          intro x2 x3 I17 m17 hB17 n
          induction n with
          | zero => intro x4 x5 H locs ls _ hm; exact absurd hm (Nat.not_lt_zero _)
          | succ n ih =>
            intro x4 x5 H locs ls hI hm hP hD hS hl
            obtain ⟨R17, h, rec17⟩ : ∃ R17 : Int32 → Int32 → Prop, pX11_numberOf_17 N_p1 p1 R4 K x0 x2 x3 x4 x5 R17 ∧ ∀ (x4 : Int32) (x5 : Int32) (H : Heap) (locs : List Loc) (ls : Array Slot), R17 x4 x5 → va_P G vwCl (w_X11_numberOf Y h_p1 N_p1 p1) H → va_D A (w_X11_numberOf Y h_p1 N_p1 p1) → va_S A s.heap H locs → lv_has ls 6 [(0, .int x0), (1, .ref h_p1), (2, .int x2), (3, .int x3), (4, .int x4), (5, .int x5)] → W p l e R s m args below meth c H locs 0 0 Q (F0 m 17 ls []) := ⟨_, hB17 x4 x5 hI, fun x4 x5 H locs ls hh hP hD hS hl => ih x4 x5 H locs ls hh.1 (Nat.lt_of_lt_of_le hh.2 (Nat.le_of_lt_succ hm)) hP hD hS hl⟩
            refine lv_iload hx hb dX11_numberOf_17 (lv_at hl 5 rfl) ?_
            refine lv_iload_n hx hb dX11_numberOf_19 rfl (lv_at hl 0 rfl) ?_
            obtain ⟨ht, hf⟩ := h
            refine lv_icmp_ge (tgt := 49) hx hb dX11_numberOf_20 (by decide) (fun c9 => ?_) (fun c9 => ?_)
            · have h := ht c9
              refine lv_iload_n hx hb dX11_numberOf_49 rfl (lv_at hl 2 rfl) ?_
              refine lv_iload hx hb dX11_numberOf_50 (lv_at hl 4 rfl) ?_
              refine lv_iload_n hx hb dX11_numberOf_52 rfl (lv_at hl 0 rfl) ?_
              refine lv_iconst (v := 1) hx hb dX11_numberOf_53 (by decide) ?_
              refine lv_isub hx hb dX11_numberOf_54 ?_
              refine lv_iload_n hx hb dX11_numberOf_55 rfl (lv_at hl 3 rfl) ?_
              refine lv_isub hx hb dX11_numberOf_56 ?_
              refine mc_iS ⟨hx, hb, hml, hown, hts⟩ hK hE hA hP hD hS (c_X11_factorial 10 l G Y tF H.size ((x0 - (1 : Int32)) - x3) h) (va_cwS 1 hts gX11_numberOf_X11_factorial rfl rfl rfl (by decide +kernel) ⟨Nat.le_trans (by decide) hRf, Nat.le_trans (by decide) hRl⟩) (fun u => (w_X11_numberOf Y h_p1 N_p1 p1)) [] [0] [0] rfl rfl rfl rfl (by decide) (fun _ => rfl) rfl rfl hl.1 rfl (Nat.le_of_ble_eq_true rfl) dX11_numberOf_57 (fun r57 u H locs h hP hD hS => ?_)
              try dsimp only at h
              have hP : va_P G vwCl (w_X11_numberOf Y h_p1 N_p1 p1) H := hP
              have hD : va_D A (w_X11_numberOf Y h_p1 N_p1 p1) := hD
              refine lv_imul hx hb dX11_numberOf_60 ?_
              refine lv_iadd hx hb dX11_numberOf_61 ?_
              refine lv_istore_n (lv' := [(2, .int (x2 + (x4 * r57))), (0, .int x0), (1, .ref h_p1), (3, .int x3), (4, .int x4), (5, .int x5)]) hx hb dX11_numberOf_62 rfl hl (by decide) rfl (fun ls hl => ?_)
              refine lv_iinc (v := (x3 + 1)) (lv' := [(3, .int (x3 + 1)), (2, .int (x2 + (x4 * r57))), (0, .int x0), (1, .ref h_p1), (4, .int x4), (5, .int x5)]) hx hb dX11_numberOf_63 hl (k := 3) rfl rfl (by decide) rfl (fun ls hl => ?_)
              refine lv_goto (tgt := 4) hx hb dX11_numberOf_66 (by decide) ?_
              exact rec4 (x2 + (x4 * r57)) (x3 + 1) H locs ls h hP hD hS (lv_sub hl [2, 3, 1, 0] rfl)
            · have h := hf c9
              refine lv_iload hx hb dX11_numberOf_23 (lv_at hl 4 rfl) ?_
              refine lv_aload_n hx hb dX11_numberOf_25 rfl (lv_at hl 1 rfl) ?_
              refine lv_iload hx hb dX11_numberOf_26 (lv_at hl 5 rfl) ?_
              obtain ⟨hin, h⟩ := h
              refine va_iald hx hb hK hP 0 0 rfl rfl hin dX11_numberOf_28 ?_
              refine lv_aload_n hx hb dX11_numberOf_29 rfl (lv_at hl 1 rfl) ?_
              refine lv_iload_n hx hb dX11_numberOf_30 rfl (lv_at hl 3 rfl) ?_
              obtain ⟨hin, h⟩ := h
              refine va_iald hx hb hK hP 0 0 rfl rfl hin dX11_numberOf_31 ?_
              obtain ⟨ht, hf⟩ := h
              refine lv_icmp_ge (tgt := 39) hx hb dX11_numberOf_32 (by decide) (fun c9 => ?_) (fun c9 => ?_)
              · have h := ht c9
                refine lv_iconst (v := 0) hx hb dX11_numberOf_39 (by decide) ?_
                refine lv_iadd hx hb dX11_numberOf_40 ?_
                refine lv_istore (lv' := [(4, .int (x4 + (0 : Int32))), (0, .int x0), (1, .ref h_p1), (2, .int x2), (3, .int x3), (5, .int x5)]) hx hb dX11_numberOf_41 hl (by decide) rfl (fun ls hl => ?_)
                refine lv_iinc (v := (x5 + 1)) (lv' := [(5, .int (x5 + 1)), (4, .int (x4 + (0 : Int32))), (0, .int x0), (1, .ref h_p1), (2, .int x2), (3, .int x3)]) hx hb dX11_numberOf_43 hl (k := 5) rfl rfl (by decide) rfl (fun ls hl => ?_)
                refine lv_goto (tgt := 17) hx hb dX11_numberOf_46 (by decide) ?_
                exact rec17 (x4 + (0 : Int32)) (x5 + 1) H locs ls h hP hD hS (lv_sub hl [2, 3, 4, 5, 1, 0] rfl)
              · have h := hf c9
                refine lv_iconst (v := 1) hx hb dX11_numberOf_35 (by decide) ?_
                refine lv_goto (tgt := 40) hx hb dX11_numberOf_36 (by decide) ?_
                refine lv_iadd hx hb dX11_numberOf_40 ?_
                refine lv_istore (lv' := [(4, .int (x4 + (1 : Int32))), (0, .int x0), (1, .ref h_p1), (2, .int x2), (3, .int x3), (5, .int x5)]) hx hb dX11_numberOf_41 hl (by decide) rfl (fun ls hl => ?_)
                refine lv_iinc (v := (x5 + 1)) (lv' := [(5, .int (x5 + 1)), (4, .int (x4 + (1 : Int32))), (0, .int x0), (1, .ref h_p1), (2, .int x2), (3, .int x3)]) hx hb dX11_numberOf_43 hl (k := 5) rfl rfl (by decide) rfl (fun ls hl => ?_)
                refine lv_goto (tgt := 17) hx hb dX11_numberOf_46 (by decide) ?_
                exact rec17 (x4 + (1 : Int32)) (x5 + 1) H locs ls h hP hD hS (lv_sub hl [2, 3, 4, 5, 1, 0] rfl)
        exact L17 x2 x3 I17 m17 hB17 _ (0 : Int32) (x3 + (1 : Int32)) H locs ls hI17 (Nat.lt_succ_self _) hP hD hS (lv_sub hl [2, 3, 4, 5, 1, 0] rfl)
  exact L4 x0 I4 m4 hB4 _ (0 : Int32) (0 : Int32) H locs ls hI4 (Nat.lt_succ_self _) hP hD hS (lv_sub hl [2, 3, 1, 0] rfl)

set_option maxHeartbeats 4000000 in
set_option maxRecDepth 100000 in
theorem c_X11_numberOf (l : Launch) (G : va_G) (Y : Nat → ClassId) (tF sz : Nat) (h_p1 : Nat) (N_p1 : Nat) (p1 : Nat → Int32) (x0 : Int32) {K : Int32 → Prop} (h : pX11_numberOf N_p1 p1 x0 K) : Met l yX11_numberOf wsX11_numberOf ({ frames := 11, cells := 0, slots := 0, locals := 220 }) (PcM G Y tF sz (w_X11_numberOf Y h_p1 N_p1 p1) [.int x0, .ref h_p1]) (va_Qi (fun (r : Int32) (u : Unit) => K r ) (fun u t => BM G Y (va_A (w_X11_numberOf Y h_p1 N_p1 p1) sz) (w_X11_numberOf Y h_p1 N_p1 p1) t) (va_A (w_X11_numberOf Y h_p1 N_p1 p1) sz)) 0 0 (va_A (w_X11_numberOf Y h_p1 N_p1 p1) sz) := by
  refine Met.ofW (cc := cX11_numberOf) (maxL := 6) (ret := (some .int)) (by decide +kernel) rfl ?_
  intro p e s m args below meth c s₁ B hml hv
  obtain ⟨rfl, hsz, hP, hK, hD0, hE⟩ := hv
  have hts := atoms_spec (ws := wsX11_numberOf) B.pre
  have hown : s.vm.findClass RX11 = some m.cls := findClass_of_methodNamed B.named
  have hlocks := B.notSynchronized
  subst hsz
  have hD := hD0.self (sz := s.heap.size)
  exact wk_X11_numberOf h_p1 N_p1 p1 x0 B.exec B.bytes hml hown hts hK hE (fun q h => Or.inr h) (Nat.le_refl _) (Nat.le_refl _) (fun r  H locs ls pc hP hD hS hk hd => W.iret (v := r) B.exec B.bytes B.returns (fun t ht hW => ⟨⟨r, (), rfl, hk, by rw [ht]; exact hP, va_K.moved hW.alike hK, hD⟩, hS.F ht⟩) hS.2.2 hd) hP hD h

abbrev w_X11_turn (Y : Nat → ClassId) (h_t : Nat) (B_t : Nat → Nat) (t_thrown : Int32) (t_n : Int32) (t_modulus : Int32) (t_rows : Int32) (t_strands : Int32) (t_letters : Int32) (t_listedMany : Int32) (t_listN : Int32) (t_listWhat : Int32) (t_f : Nat → Int32) (t_table : Nat → Int32) (t_twists : Nat → Int32) : va_W := [(h_t, .inr (10, [.int t_thrown, .int t_n, .ref (B_t 2), .int t_modulus, .ref (B_t 4), .ref (B_t 5), .ref (B_t 6), .ref (B_t 7), .ref (B_t 8), .ref (B_t 9), .ref (B_t 10), .int t_rows, .ref (B_t 12), .ref (B_t 13), .ref (B_t 14), .ref (B_t 15), .ref (B_t 16), .ref (B_t 17), .ref (B_t 18), .ref (B_t 19), .int t_strands, .int t_letters, .ref (B_t 22), .ref (B_t 23), .ref (B_t 24), .ref (B_t 25), .int t_listedMany, .int t_listN, .int t_listWhat])), ((B_t 5), .inl (Y 0, 8, .inl t_f)), ((B_t 2), .inl (Y 0, 64, .inl t_table)), ((B_t 4), .inl (Y 0, 64, .inl t_twists))]

set_option maxHeartbeats 4000000 in
set_option maxRecDepth 100000 in
theorem wk_X11_turn {p : Program} {l : Launch} {e : Env} {R : Room} {s : State} {m : MethodId} {args : Array Value} {below : List Frame} {meth : Method} {c : Code} {Q : State → Prop} {G : va_G} {Y : Nat → ClassId} {tF : Nat} {A : Nat → Prop} (h_t : Nat) (B_t : Nat → Nat) (t_thrown : Int32) (t_n : Int32) (t_modulus : Int32) (t_rows : Int32) (t_strands : Int32) (t_letters : Int32) (t_listedMany : Int32) (t_listN : Int32) (t_listWhat : Int32) (t_f : Nat → Int32) (t_table : Nat → Int32) (t_twists : Nat → Int32) (x1 : Int32) (x2 : Int32) {K : Int32 → Int32 → Int32 → (Nat → Int32) → (Nat → Int32) → (Nat → Int32) → Prop} (hx : p.tables.exec = Jvm.exec) (hb : c.code = cX11_turn) (hml : c.maxLocals = 5) (hown : s.vm.findClass RX11 = some m.cls) (hts : ∀ w ∈ wsX11_turn, w.before args s = true) (hK : va_K G vwCl (tyL Y) s) (hE : Ev A tF s) (hA : ∀ q, s.heap.size ≤ q → A q) (hRf : 12 ≤ R.frames) (hRl : 248 ≤ R.locals) (hret : ∀ (r : Int32) (t_thrown : Int32) (t_n : Int32) (t_f : Nat → Int32) (t_table : Nat → Int32) (t_twists : Nat → Int32) (H : Heap) (locs : List Loc) (ls : Array Slot) (pc : Nat), va_P G vwCl (w_X11_turn Y h_t B_t t_thrown t_n t_modulus t_rows t_strands t_letters t_listedMany t_listN t_listWhat t_f t_table t_twists) H → va_D A (w_X11_turn Y h_t B_t t_thrown t_n t_modulus t_rows t_strands t_letters t_listedMany t_listN t_listWhat t_f t_table t_twists) → va_S A s.heap H locs → zb r → K r t_thrown t_n t_f t_table t_twists → decode cX11_turn pc = .ok (.ireturn, 1) → W p l e R s m args below meth c H locs 0 0 Q (F0 m pc ls [.int r])) (hP : va_P G vwCl (w_X11_turn Y h_t B_t t_thrown t_n t_modulus t_rows t_strands t_letters t_listedMany t_listN t_listWhat t_f t_table t_twists) s.heap) (hD : va_D A (w_X11_turn Y h_t B_t t_thrown t_n t_modulus t_rows t_strands t_letters t_listedMany t_listN t_listWhat t_f t_table t_twists)) (h : pX11_turn t_thrown t_n t_f t_table t_twists x1 x2 K) : W p l e R s m args below meth c s.heap [] 0 0 Q (entryFrame m ([.ref h_t, .int x1, .int x2] : List Value).toArray 5) := by
  have inX11 : ∀ w ∈ u_ws RX11 TX11 29, w ∈ wsX11_turn := by decide +kernel
  have hf13 := hts (.fieldLink RX11 13 "RackBenchModel" "table" "[I") (by decide +kernel)
  have hf23 := hts (.fieldLink RX11 23 "RackBenchModel" "f" "[I") (by decide +kernel)
  have hf83 := hts (.fieldLink RX11 83 "RackBenchModel" "thrown" "I") (by decide +kernel)
  have hcL93 := hts (.constantLong RX11 93 (8)) (by decide +kernel)
  have hl := lv_entry ([.ref h_t, .int x1, .int x2]) (n := 5) (Nat.le_of_ble_eq_true rfl)
  rw [lg_entry_eq]
  generalize (lg_sl ([.ref h_t, .int x1, .int x2]) ++ List.replicate (5 - (lg_sl ([.ref h_t, .int x1, .int x2])).length) Slot.unset).toArray = ls at hl ⊢
  have hl : lv_has ls 5 [(0, .ref h_t), (1, .int x1), (2, .int x2)] := hl
  generalize hH0 : s.heap = H at hP ⊢
  have hS : va_S A s.heap H [] := by rw [← hH0]; exact va_S.rf
  clear hH0
  generalize ([] : List Loc) = locs at hS ⊢
  refine lv_aload_n hx hb dX11_turn_0 rfl (lv_at hl 0 rfl) ?_
  refine lv_iconst (v := 0) hx hb dX11_turn_1 (by decide) ?_
  refine va_put (D := G) (ci := 10) (v := .int (0 : Int32)) (ty := .int) (C := RX11) (T := TX11) (N := 29) hx hb hts inX11 tyX11 tyX11_ok nmX11 hown hK hP hD hS 0 rfl rfl 0 (by decide) hf83 (fun _ h9 => h9) rfl (by decide +kernel) rfl rfl (Nat.le_of_ble_eq_true rfl) dX11_turn_2 (fun H locs hP hD hS => ?_)
  have hP : va_P G vwCl (w_X11_turn Y h_t B_t (0 : Int32) t_n t_modulus t_rows t_strands t_letters t_listedMany t_listN t_listWhat t_f t_table t_twists) H := hP
  have hD : va_D A (w_X11_turn Y h_t B_t (0 : Int32) t_n t_modulus t_rows t_strands t_letters t_listedMany t_listN t_listWhat t_f t_table t_twists) := hD
  refine lv_iload_n hx hb dX11_turn_5 rfl (lv_at hl 1 rfl) ?_
  refine lv_i2l hx hb dX11_turn_6 rfl ?_
  refine lv_lconst (v := 1) hx hb dX11_turn_7 (by decide) ?_
  refine lv_ldc2 (v := 8) hx hb hown hcL93 dX11_turn_8 ?_
  refine mc_iS ⟨hx, hb, hml, hown, hts⟩ hK hE hA hP hD hS (c_X11_in l G Y tF H.size (Int32.toInt64 x1) (1 : Int64) (8 : Int64) h) (va_cwS 3 hts gX11_turn_X11_in rfl rfl rfl (by decide +kernel) ⟨Nat.le_trans (by decide) hRf, Nat.le_trans (by decide) hRl⟩) (fun u => (w_X11_turn Y h_t B_t (0 : Int32) t_n t_modulus t_rows t_strands t_letters t_listedMany t_listN t_listWhat t_f t_table t_twists)) [] [0, 1, 2, 3] [0, 1, 2, 3] rfl rfl rfl rfl (by decide) (fun _ => rfl) rfl rfl hl.1 rfl (Nat.le_of_ble_eq_true rfl) dX11_turn_11 (fun r11 u H locs h hP hD hS => ?_)
  try dsimp only at h
  have hP : va_P G vwCl (w_X11_turn Y h_t B_t (0 : Int32) t_n t_modulus t_rows t_strands t_letters t_listedMany t_listN t_listWhat t_f t_table t_twists) H := hP
  have hD : va_D A (w_X11_turn Y h_t B_t (0 : Int32) t_n t_modulus t_rows t_strands t_letters t_listedMany t_listN t_listWhat t_f t_table t_twists) := hD
  obtain ⟨ht, hf⟩ := h
  refine lv_if_eq (tgt := 33) hx hb dX11_turn_14 (by decide) (fun c9 => ?_) (fun c9 => ?_)
  · have h := ht c9
    refine lv_iconst (v := 0) hx hb dX11_turn_33 (by decide) ?_
    obtain ⟨hz, h⟩ := h
    exact hret (0 : Int32) (0 : Int32) t_n t_f t_table t_twists H locs ls _ hP hD hS hz h dX11_turn_34
  · have h := hf c9
    refine lv_iload_n hx hb dX11_turn_17 rfl (lv_at hl 2 rfl) ?_
    refine lv_i2l hx hb dX11_turn_18 rfl ?_
    refine lv_lconst (v := 0) hx hb dX11_turn_19 (by decide) ?_
    refine lv_iload_n hx hb dX11_turn_20 rfl (lv_at hl 1 rfl) ?_
    refine mc_iS ⟨hx, hb, hml, hown, hts⟩ hK hE hA hP hD hS (c_X11_factorial 10 l G Y tF H.size x1 h) (va_cwS 1 hts gX11_turn_X11_factorial rfl rfl rfl (by decide +kernel) ⟨Nat.le_trans (by decide) hRf, Nat.le_trans (by decide) hRl⟩) (fun u => (w_X11_turn Y h_t B_t (0 : Int32) t_n t_modulus t_rows t_strands t_letters t_listedMany t_listN t_listWhat t_f t_table t_twists)) [] [0, 1, 2, 3] [0, 1, 2, 3] rfl rfl rfl rfl (by decide) (fun _ => rfl) rfl rfl hl.1 rfl (Nat.le_of_ble_eq_true rfl) dX11_turn_21 (fun r21 u H locs h hP hD hS => ?_)
    try dsimp only at h
    have hP : va_P G vwCl (w_X11_turn Y h_t B_t (0 : Int32) t_n t_modulus t_rows t_strands t_letters t_listedMany t_listN t_listWhat t_f t_table t_twists) H := hP
    have hD : va_D A (w_X11_turn Y h_t B_t (0 : Int32) t_n t_modulus t_rows t_strands t_letters t_listedMany t_listN t_listWhat t_f t_table t_twists) := hD
    refine lv_iconst (v := 1) hx hb dX11_turn_24 (by decide) ?_
    refine lv_isub hx hb dX11_turn_25 ?_
    refine lv_i2l hx hb dX11_turn_26 rfl ?_
    refine mc_iS ⟨hx, hb, hml, hown, hts⟩ hK hE hA hP hD hS (c_X11_in l G Y tF H.size (Int32.toInt64 x2) (0 : Int64) (Int32.toInt64 (r21 - (1 : Int32))) h) (va_cwS 3 hts gX11_turn_X11_in rfl rfl rfl (by decide +kernel) ⟨Nat.le_trans (by decide) hRf, Nat.le_trans (by decide) hRl⟩) (fun u => (w_X11_turn Y h_t B_t (0 : Int32) t_n t_modulus t_rows t_strands t_letters t_listedMany t_listN t_listWhat t_f t_table t_twists)) [] [0, 1, 2, 3] [0, 1, 2, 3] rfl rfl rfl rfl (by decide) (fun _ => rfl) rfl rfl hl.1 rfl (Nat.le_of_ble_eq_true rfl) dX11_turn_27 (fun r27 u H locs h hP hD hS => ?_)
    try dsimp only at h
    have hP : va_P G vwCl (w_X11_turn Y h_t B_t (0 : Int32) t_n t_modulus t_rows t_strands t_letters t_listedMany t_listN t_listWhat t_f t_table t_twists) H := hP
    have hD : va_D A (w_X11_turn Y h_t B_t (0 : Int32) t_n t_modulus t_rows t_strands t_letters t_listedMany t_listN t_listWhat t_f t_table t_twists) := hD
    obtain ⟨ht, hf⟩ := h
    refine lv_if_ne (tgt := 35) hx hb dX11_turn_30 (by decide) (fun c9 => ?_) (fun c9 => ?_)
    · have h := ht c9
      refine lv_aload_n hx hb dX11_turn_35 rfl (lv_at hl 0 rfl) ?_
      refine lv_iload_n hx hb dX11_turn_36 rfl (lv_at hl 1 rfl) ?_
      refine mc_vV ⟨hx, hb, hml, hown, hts⟩ hK hE hA hP hD hS (c_X11_sized l G Y tF H.size h_t B_t (0 : Int32) t_n t_modulus t_rows t_strands t_letters t_listedMany t_listN t_listWhat t_twists x1 h) (cwV 1 hts gX11_turn_X11_sized rfl rfl rfl (by decide +kernel) ⟨Nat.le_trans (by decide) hRf, Nat.le_trans (by decide) hRl⟩) (fun u => (w_X11_turn Y h_t B_t (0 : Int32) u.1 t_modulus t_rows t_strands t_letters t_listedMany t_listN t_listWhat t_f t_table u.2)) [0, 3] [1, 2] [2, 0, 1, 3] rfl rfl rfl rfl (by decide) (fun _ => rfl) rfl 0 10 rfl rfl rfl rfl hl.1 rfl (Nat.le_of_ble_eq_true rfl) dX11_turn_37 (fun u H locs h hP hD hS => ?_)
      obtain ⟨t_n_37, t_twists_37⟩ := u
      try dsimp only at h
      have hP : va_P G vwCl (w_X11_turn Y h_t B_t (0 : Int32) t_n_37 t_modulus t_rows t_strands t_letters t_listedMany t_listN t_listWhat t_f t_table t_twists_37) H := hP
      have hD : va_D A (w_X11_turn Y h_t B_t (0 : Int32) t_n_37 t_modulus t_rows t_strands t_letters t_listedMany t_listN t_listWhat t_f t_table t_twists_37) := hD
      refine lv_iload_n hx hb dX11_turn_40 rfl (lv_at hl 1 rfl) ?_
      refine lv_iload_n hx hb dX11_turn_41 rfl (lv_at hl 2 rfl) ?_
      refine lv_aload_n hx hb dX11_turn_42 rfl (lv_at hl 0 rfl) ?_
      refine va_get (D := G) (ci := 10) (v := .ref (B_t 5)) (C := RX11) (T := TX11) (N := 29) hx hb hts inX11 hown hK hP 0 rfl rfl 5 (by decide) hf23 (fun _ h9 => h9) rfl dX11_turn_43 ?_
      refine mc_vS ⟨hx, hb, hml, hown, hts⟩ hK hE hA hP hD hS (c_X11_permutation l G Y tF H.size (B_t 5) 8 t_f x1 x2 h) (va_cwS 3 hts gX11_turn_X11_permutation rfl rfl rfl (by decide +kernel) ⟨Nat.le_trans (by decide) hRf, Nat.le_trans (by decide) hRl⟩) (fun u => (w_X11_turn Y h_t B_t (0 : Int32) t_n_37 t_modulus t_rows t_strands t_letters t_listedMany t_listN t_listWhat u t_table t_twists_37)) [1] [0, 2, 3] [0, 3, 1, 2] rfl rfl rfl rfl (by decide) (fun _ => rfl) rfl rfl hl.1 rfl (Nat.le_of_ble_eq_true rfl) dX11_turn_46 (fun u H locs h hP hD hS => ?_)
      obtain ⟨t_f_46, rfl⟩ : ∃ z, z = u := ⟨_, rfl⟩
      try dsimp only at h
      have hP : va_P G vwCl (w_X11_turn Y h_t B_t (0 : Int32) t_n_37 t_modulus t_rows t_strands t_letters t_listedMany t_listN t_listWhat t_f_46 t_table t_twists_37) H := hP
      have hD : va_D A (w_X11_turn Y h_t B_t (0 : Int32) t_n_37 t_modulus t_rows t_strands t_letters t_listedMany t_listN t_listWhat t_f_46 t_table t_twists_37) := hD
      refine lv_iconst (v := 0) hx hb dX11_turn_49 (by decide) ?_
      refine lv_istore_n (lv' := [(3, .int (0 : Int32)), (0, .ref h_t), (1, .int x1), (2, .int x2)]) hx hb dX11_turn_50 rfl hl (by decide) rfl (fun ls hl => ?_)
      obtain ⟨I51, m51, hI51, hB51⟩ := h
      have L51 : ∀ (x1 : Int32) (t_thrown : Int32) (t_n : Int32) (t_f : Nat → Int32) (t_twists : Nat → Int32) (I51 : Int32 → (Nat → Int32) → Prop) (m51 : Int32 → (Nat → Int32) → Nat), (∀ (x3 : Int32) (t_table : Nat → Int32), I51 x3 t_table → pX11_turn_51 K x1 t_thrown t_n t_f t_twists x3 t_table (fun x3' t_table' => I51 x3' t_table' ∧ m51 x3' t_table' < m51 x3 t_table)) → ∀ (n : Nat) (x3 : Int32) (t_table : Nat → Int32) (H : Heap) (locs : List Loc) (ls : Array Slot), I51 x3 t_table → m51 x3 t_table < n → va_P G vwCl (w_X11_turn Y h_t B_t t_thrown t_n t_modulus t_rows t_strands t_letters t_listedMany t_listN t_listWhat t_f t_table t_twists) H → va_D A (w_X11_turn Y h_t B_t t_thrown t_n t_modulus t_rows t_strands t_letters t_listedMany t_listN t_listWhat t_f t_table t_twists) → va_S A s.heap H locs → lv_has ls 5 [(0, .ref h_t), (1, .int x1), (3, .int x3)] → W p l e R s m args below meth c H locs 0 0 Q (F0 m 51 ls []) := by
        intro x1 t_thrown t_n t_f t_twists I51 m51 hB51 n
        induction n with
        | zero => intro x3 t_table H locs ls _ hm; exact absurd hm (Nat.not_lt_zero _)
        | succ n ih =>
          intro x3 t_table H locs ls hI hm hP hD hS hl
          obtain ⟨R51, h, rec51⟩ : ∃ R51 : Int32 → (Nat → Int32) → Prop, pX11_turn_51 K x1 t_thrown t_n t_f t_twists x3 t_table R51 ∧ ∀ (x3 : Int32) (t_table : Nat → Int32) (H : Heap) (locs : List Loc) (ls : Array Slot), R51 x3 t_table → va_P G vwCl (w_X11_turn Y h_t B_t t_thrown t_n t_modulus t_rows t_strands t_letters t_listedMany t_listN t_listWhat t_f t_table t_twists) H → va_D A (w_X11_turn Y h_t B_t t_thrown t_n t_modulus t_rows t_strands t_letters t_listedMany t_listN t_listWhat t_f t_table t_twists) → va_S A s.heap H locs → lv_has ls 5 [(0, .ref h_t), (1, .int x1), (3, .int x3)] → W p l e R s m args below meth c H locs 0 0 Q (F0 m 51 ls []) := ⟨_, hB51 x3 t_table hI, fun x3 t_table H locs ls hh hP hD hS hl => ih x3 t_table H locs ls hh.1 (Nat.lt_of_lt_of_le hh.2 (Nat.le_of_lt_succ hm)) hP hD hS hl⟩
          refine lv_iload_n hx hb dX11_turn_51 rfl (lv_at hl 2 rfl) ?_
          refine lv_iload_n hx hb dX11_turn_52 rfl (lv_at hl 1 rfl) ?_
          obtain ⟨ht, hf⟩ := h
          refine lv_icmp_ge (tgt := 96) hx hb dX11_turn_53 (by decide) (fun c9 => ?_) (fun c9 => ?_)
          · have h := ht c9
            refine lv_iconst (v := 1) hx hb dX11_turn_96 (by decide) ?_
            obtain ⟨hz, h⟩ := h
            exact hret (1 : Int32) t_thrown t_n t_f t_table t_twists H locs ls _ hP hD hS hz h dX11_turn_97
          · have h := hf c9
            refine lv_iconst (v := 0) hx hb dX11_turn_56 (by decide) ?_
            refine lv_istore (lv' := [(4, .int (0 : Int32)), (0, .ref h_t), (1, .int x1), (3, .int x3)]) hx hb dX11_turn_57 hl (by decide) rfl (fun ls hl => ?_)
            obtain ⟨I59, m59, hI59, hB59⟩ := h
            have L59 : ∀ (x3 : Int32) (I59 : Int32 → (Nat → Int32) → Prop) (m59 : Int32 → (Nat → Int32) → Nat), (∀ (x4 : Int32) (t_table : Nat → Int32), I59 x4 t_table → pX11_turn_59 R51 K x1 t_thrown t_n t_f t_twists x3 x4 t_table (fun x4' t_table' => I59 x4' t_table' ∧ m59 x4' t_table' < m59 x4 t_table)) → ∀ (n : Nat) (x4 : Int32) (t_table : Nat → Int32) (H : Heap) (locs : List Loc) (ls : Array Slot), I59 x4 t_table → m59 x4 t_table < n → va_P G vwCl (w_X11_turn Y h_t B_t t_thrown t_n t_modulus t_rows t_strands t_letters t_listedMany t_listN t_listWhat t_f t_table t_twists) H → va_D A (w_X11_turn Y h_t B_t t_thrown t_n t_modulus t_rows t_strands t_letters t_listedMany t_listN t_listWhat t_f t_table t_twists) → va_S A s.heap H locs → lv_has ls 5 [(0, .ref h_t), (1, .int x1), (3, .int x3), (4, .int x4)] → W p l e R s m args below meth c H locs 0 0 Q (F0 m 59 ls []) := by
              intro x3 I59 m59 hB59 n
              induction n with
              | zero => intro x4 t_table H locs ls _ hm; exact absurd hm (Nat.not_lt_zero _)
              | succ n ih =>
                intro x4 t_table H locs ls hI hm hP hD hS hl
                obtain ⟨R59, h, rec59⟩ : ∃ R59 : Int32 → (Nat → Int32) → Prop, pX11_turn_59 R51 K x1 t_thrown t_n t_f t_twists x3 x4 t_table R59 ∧ ∀ (x4 : Int32) (t_table : Nat → Int32) (H : Heap) (locs : List Loc) (ls : Array Slot), R59 x4 t_table → va_P G vwCl (w_X11_turn Y h_t B_t t_thrown t_n t_modulus t_rows t_strands t_letters t_listedMany t_listN t_listWhat t_f t_table t_twists) H → va_D A (w_X11_turn Y h_t B_t t_thrown t_n t_modulus t_rows t_strands t_letters t_listedMany t_listN t_listWhat t_f t_table t_twists) → va_S A s.heap H locs → lv_has ls 5 [(0, .ref h_t), (1, .int x1), (3, .int x3), (4, .int x4)] → W p l e R s m args below meth c H locs 0 0 Q (F0 m 59 ls []) := ⟨_, hB59 x4 t_table hI, fun x4 t_table H locs ls hh hP hD hS hl => ih x4 t_table H locs ls hh.1 (Nat.lt_of_lt_of_le hh.2 (Nat.le_of_lt_succ hm)) hP hD hS hl⟩
                refine lv_iload hx hb dX11_turn_59 (lv_at hl 3 rfl) ?_
                refine lv_iload_n hx hb dX11_turn_61 rfl (lv_at hl 1 rfl) ?_
                obtain ⟨ht, hf⟩ := h
                refine lv_icmp_ge (tgt := 90) hx hb dX11_turn_62 (by decide) (fun c9 => ?_) (fun c9 => ?_)
                · have h := ht c9
                  refine lv_iinc (v := (x3 + 1)) (lv' := [(3, .int (x3 + 1)), (0, .ref h_t), (1, .int x1), (4, .int x4)]) hx hb dX11_turn_90 hl (k := 2) rfl rfl (by decide) rfl (fun ls hl => ?_)
                  refine lv_goto (tgt := 51) hx hb dX11_turn_93 (by decide) ?_
                  exact rec51 (x3 + 1) t_table H locs ls h hP hD hS (lv_sub hl [1, 2, 0] rfl)
                · have h := hf c9
                  refine lv_aload_n hx hb dX11_turn_65 rfl (lv_at hl 0 rfl) ?_
                  refine va_get (D := G) (ci := 10) (v := .ref (B_t 2)) (C := RX11) (T := TX11) (N := 29) hx hb hts inX11 hown hK hP 0 rfl rfl 2 (by decide) hf13 (fun _ h9 => h9) rfl dX11_turn_66 ?_
                  refine lv_bipush (v := 8) hx hb dX11_turn_69 (by decide) ?_
                  refine lv_iload_n hx hb dX11_turn_71 rfl (lv_at hl 2 rfl) ?_
                  refine lv_imul hx hb dX11_turn_72 ?_
                  refine lv_iload hx hb dX11_turn_73 (lv_at hl 3 rfl) ?_
                  refine lv_iadd hx hb dX11_turn_75 ?_
                  refine lv_aload_n hx hb dX11_turn_76 rfl (lv_at hl 0 rfl) ?_
                  refine va_get (D := G) (ci := 10) (v := .ref (B_t 5)) (C := RX11) (T := TX11) (N := 29) hx hb hts inX11 hown hK hP 0 rfl rfl 5 (by decide) hf23 (fun _ h9 => h9) rfl dX11_turn_77 ?_
                  refine lv_iload hx hb dX11_turn_80 (lv_at hl 3 rfl) ?_
                  obtain ⟨hin, h⟩ := h
                  refine va_iald hx hb hK hP 1 0 rfl rfl hin dX11_turn_82 ?_
                  obtain ⟨hin, h⟩ := h
                  refine va_iast hx hb hK hP hD hS 2 0 rfl rfl hin dX11_turn_83 (fun H locs hP hD hS => ?_)
                  have hP : va_P G vwCl (w_X11_turn Y h_t B_t t_thrown t_n t_modulus t_rows t_strands t_letters t_listedMany t_listN t_listWhat t_f (upd t_table (Int32.toNatClampNeg (((8 : Int32) * x3) + x4)) (t_f (Int32.toNatClampNeg x4))) t_twists) H := hP
                  have hD : va_D A (w_X11_turn Y h_t B_t t_thrown t_n t_modulus t_rows t_strands t_letters t_listedMany t_listN t_listWhat t_f (upd t_table (Int32.toNatClampNeg (((8 : Int32) * x3) + x4)) (t_f (Int32.toNatClampNeg x4))) t_twists) := hD
                  refine lv_iinc (v := (x4 + 1)) (lv' := [(4, .int (x4 + 1)), (0, .ref h_t), (1, .int x1), (3, .int x3)]) hx hb dX11_turn_84 hl (k := 3) rfl rfl (by decide) rfl (fun ls hl => ?_)
                  refine lv_goto (tgt := 59) hx hb dX11_turn_87 (by decide) ?_
                  exact rec59 (x4 + 1) (upd t_table (Int32.toNatClampNeg (((8 : Int32) * x3) + x4)) (t_f (Int32.toNatClampNeg x4))) H locs ls h hP hD hS (lv_sub hl [1, 2, 3, 0] rfl)
            exact L59 x3 I59 m59 hB59 _ (0 : Int32) t_table H locs ls hI59 (Nat.lt_succ_self _) hP hD hS (lv_sub hl [1, 2, 3, 0] rfl)
      exact L51 x1 (0 : Int32) t_n_37 t_f_46 t_twists_37 I51 m51 hB51 _ (0 : Int32) t_table H locs ls hI51 (Nat.lt_succ_self _) hP hD hS (lv_sub hl [1, 2, 0] rfl)
    · have h := hf c9
      refine lv_iconst (v := 0) hx hb dX11_turn_33 (by decide) ?_
      obtain ⟨hz, h⟩ := h
      exact hret (0 : Int32) (0 : Int32) t_n t_f t_table t_twists H locs ls _ hP hD hS hz h dX11_turn_34

set_option maxHeartbeats 4000000 in
set_option maxRecDepth 100000 in
theorem c_X11_turn (l : Launch) (G : va_G) (Y : Nat → ClassId) (tF sz : Nat) (h_t : Nat) (B_t : Nat → Nat) (t_thrown : Int32) (t_n : Int32) (t_modulus : Int32) (t_rows : Int32) (t_strands : Int32) (t_letters : Int32) (t_listedMany : Int32) (t_listN : Int32) (t_listWhat : Int32) (t_f : Nat → Int32) (t_table : Nat → Int32) (t_twists : Nat → Int32) (x1 : Int32) (x2 : Int32) {K : Int32 → Int32 → Int32 → (Nat → Int32) → (Nat → Int32) → (Nat → Int32) → Prop} (h : pX11_turn t_thrown t_n t_f t_table t_twists x1 x2 K) : Met l yX11_turn wsX11_turn ({ frames := 12, cells := 0, slots := 0, locals := 248 }) (PcM G Y tF sz (w_X11_turn Y h_t B_t t_thrown t_n t_modulus t_rows t_strands t_letters t_listedMany t_listN t_listWhat t_f t_table t_twists) [.ref h_t, .int x1, .int x2]) (va_Qi (fun (r : Int32) (u : Int32 × Int32 × (Nat → Int32) × (Nat → Int32) × (Nat → Int32)) => K r u.1 u.2.1 u.2.2.1 u.2.2.2.1 u.2.2.2.2) (fun u t => BM G Y (va_A (w_X11_turn Y h_t B_t t_thrown t_n t_modulus t_rows t_strands t_letters t_listedMany t_listN t_listWhat t_f t_table t_twists) sz) (w_X11_turn Y h_t B_t u.1 u.2.1 t_modulus t_rows t_strands t_letters t_listedMany t_listN t_listWhat u.2.2.1 u.2.2.2.1 u.2.2.2.2) t) (va_A (w_X11_turn Y h_t B_t t_thrown t_n t_modulus t_rows t_strands t_letters t_listedMany t_listN t_listWhat t_f t_table t_twists) sz)) 0 0 (va_A (w_X11_turn Y h_t B_t t_thrown t_n t_modulus t_rows t_strands t_letters t_listedMany t_listN t_listWhat t_f t_table t_twists) sz) := by
  refine Met.ofW (cc := cX11_turn) (maxL := 5) (ret := (some .boolean)) (by decide +kernel) rfl ?_
  intro p e s m args below meth c s₁ B hml hv
  obtain ⟨rfl, hsz, hP, hK, hD0, hE⟩ := hv
  have hts := atoms_spec (ws := wsX11_turn) B.pre
  have hown : s.vm.findClass RX11 = some m.cls := findClass_of_methodNamed B.named
  have hlocks := B.notSynchronized
  subst hsz
  have hD := hD0.self (sz := s.heap.size)
  exact wk_X11_turn h_t B_t t_thrown t_n t_modulus t_rows t_strands t_letters t_listedMany t_listN t_listWhat t_f t_table t_twists x1 x2 B.exec B.bytes hml hown hts hK hE (fun q h => Or.inr h) (Nat.le_refl _) (Nat.le_refl _) (fun r t_thrown t_n t_f t_table t_twists H locs ls pc hP hD hS hz hk hd => W.zret (v := r) B.exec B.bytes B.returns hz.n (fun t ht hW => ⟨⟨r, (t_thrown, t_n, t_f, t_table, t_twists), rfl, hk, by rw [ht]; exact hP, va_K.moved hW.alike hK, hD⟩, hS.F ht⟩) hS.2.2 hd) hP hD h

abbrev w_X11_turnedBy (Y : Nat → ClassId) (h_t : Nat) (B_t : Nat → Nat) (t_thrown : Int32) (t_n : Int32) (t_modulus : Int32) (t_rows : Int32) (t_strands : Int32) (t_letters : Int32) (t_listedMany : Int32) (t_listN : Int32) (t_listWhat : Int32) (t_f : Nat → Int32) (t_g : Nat → Int32) (t_h : Nat → Int32) : va_W := [(h_t, .inr (10, [.int t_thrown, .int t_n, .ref (B_t 2), .int t_modulus, .ref (B_t 4), .ref (B_t 5), .ref (B_t 6), .ref (B_t 7), .ref (B_t 8), .ref (B_t 9), .ref (B_t 10), .int t_rows, .ref (B_t 12), .ref (B_t 13), .ref (B_t 14), .ref (B_t 15), .ref (B_t 16), .ref (B_t 17), .ref (B_t 18), .ref (B_t 19), .int t_strands, .int t_letters, .ref (B_t 22), .ref (B_t 23), .ref (B_t 24), .ref (B_t 25), .int t_listedMany, .int t_listN, .int t_listWhat])), ((B_t 5), .inl (Y 0, 8, .inl t_f)), ((B_t 6), .inl (Y 0, 8, .inl t_g)), ((B_t 7), .inl (Y 0, 8, .inl t_h))]

set_option maxHeartbeats 4000000 in
set_option maxRecDepth 100000 in
theorem wk_X11_turnedBy {p : Program} {l : Launch} {e : Env} {R : Room} {s : State} {m : MethodId} {args : Array Value} {below : List Frame} {meth : Method} {c : Code} {Q : State → Prop} {G : va_G} {Y : Nat → ClassId} {tF : Nat} {A : Nat → Prop} (h_t : Nat) (B_t : Nat → Nat) (t_thrown : Int32) (t_n : Int32) (t_modulus : Int32) (t_rows : Int32) (t_strands : Int32) (t_letters : Int32) (t_listedMany : Int32) (t_listN : Int32) (t_listWhat : Int32) (t_f : Nat → Int32) (t_g : Nat → Int32) (t_h : Nat → Int32) (x1 : Int32) (x2 : Int32) {K : Int32 → (Nat → Int32) → (Nat → Int32) → (Nat → Int32) → Prop} (hx : p.tables.exec = Jvm.exec) (hb : c.code = cX11_turnedBy) (hml : c.maxLocals = 4) (hown : s.vm.findClass RX11 = some m.cls) (hts : ∀ w ∈ wsX11_turnedBy, w.before args s = true) (hK : va_K G vwCl (tyL Y) s) (hE : Ev A tF s) (hA : ∀ q, s.heap.size ≤ q → A q) (hRf : 12 ≤ R.frames) (hRl : 248 ≤ R.locals) (hret : ∀ (r : Int32) (t_f : Nat → Int32) (t_g : Nat → Int32) (t_h : Nat → Int32) (H : Heap) (locs : List Loc) (ls : Array Slot) (pc : Nat), va_P G vwCl (w_X11_turnedBy Y h_t B_t t_thrown t_n t_modulus t_rows t_strands t_letters t_listedMany t_listN t_listWhat t_f t_g t_h) H → va_D A (w_X11_turnedBy Y h_t B_t t_thrown t_n t_modulus t_rows t_strands t_letters t_listedMany t_listN t_listWhat t_f t_g t_h) → va_S A s.heap H locs → K r t_f t_g t_h → decode cX11_turnedBy pc = .ok (.ireturn, 1) → W p l e R s m args below meth c H locs 0 0 Q (F0 m pc ls [.int r])) (hP : va_P G vwCl (w_X11_turnedBy Y h_t B_t t_thrown t_n t_modulus t_rows t_strands t_letters t_listedMany t_listN t_listWhat t_f t_g t_h) s.heap) (hD : va_D A (w_X11_turnedBy Y h_t B_t t_thrown t_n t_modulus t_rows t_strands t_letters t_listedMany t_listN t_listWhat t_f t_g t_h)) (h : pX11_turnedBy t_f t_g t_h x1 x2 K) : W p l e R s m args below meth c s.heap [] 0 0 Q (entryFrame m ([.ref h_t, .int x1, .int x2] : List Value).toArray 4) := by
  have inX11 : ∀ w ∈ u_ws RX11 TX11 29, w ∈ wsX11_turnedBy := by decide +kernel
  have hf23 := hts (.fieldLink RX11 23 "RackBenchModel" "f" "[I") (by decide +kernel)
  have hf26 := hts (.fieldLink RX11 26 "RackBenchModel" "g" "[I") (by decide +kernel)
  have hf29 := hts (.fieldLink RX11 29 "RackBenchModel" "h" "[I") (by decide +kernel)
  have hl := lv_entry ([.ref h_t, .int x1, .int x2]) (n := 4) (Nat.le_of_ble_eq_true rfl)
  rw [lg_entry_eq]
  generalize (lg_sl ([.ref h_t, .int x1, .int x2]) ++ List.replicate (4 - (lg_sl ([.ref h_t, .int x1, .int x2])).length) Slot.unset).toArray = ls at hl ⊢
  have hl : lv_has ls 4 [(0, .ref h_t), (1, .int x1), (2, .int x2)] := hl
  generalize hH0 : s.heap = H at hP ⊢
  have hS : va_S A s.heap H [] := by rw [← hH0]; exact va_S.rf
  clear hH0
  generalize ([] : List Loc) = locs at hS ⊢
  refine lv_iconst (v := 4) hx hb dX11_turnedBy_0 (by decide) ?_
  refine lv_iload_n hx hb dX11_turnedBy_1 rfl (lv_at hl 1 rfl) ?_
  refine lv_aload_n hx hb dX11_turnedBy_2 rfl (lv_at hl 0 rfl) ?_
  refine va_get (D := G) (ci := 10) (v := .ref (B_t 5)) (C := RX11) (T := TX11) (N := 29) hx hb hts inX11 hown hK hP 0 rfl rfl 5 (by decide) hf23 (fun _ h9 => h9) rfl dX11_turnedBy_3 ?_
  refine mc_vS ⟨hx, hb, hml, hown, hts⟩ hK hE hA hP hD hS (c_X11_permutation l G Y tF H.size (B_t 5) 8 t_f (4 : Int32) x1 h) (va_cwS 3 hts gX11_turnedBy_X11_permutation rfl rfl rfl (by decide +kernel) ⟨Nat.le_trans (by decide) hRf, Nat.le_trans (by decide) hRl⟩) (fun u => (w_X11_turnedBy Y h_t B_t t_thrown t_n t_modulus t_rows t_strands t_letters t_listedMany t_listN t_listWhat u t_g t_h)) [1] [0, 2, 3] [0, 3, 1, 2] rfl rfl rfl rfl (by decide) (fun _ => rfl) rfl rfl hl.1 rfl (Nat.le_of_ble_eq_true rfl) dX11_turnedBy_6 (fun u H locs h hP hD hS => ?_)
  obtain ⟨t_f_6, rfl⟩ : ∃ z, z = u := ⟨_, rfl⟩
  try dsimp only at h
  have hP : va_P G vwCl (w_X11_turnedBy Y h_t B_t t_thrown t_n t_modulus t_rows t_strands t_letters t_listedMany t_listN t_listWhat t_f_6 t_g t_h) H := hP
  have hD : va_D A (w_X11_turnedBy Y h_t B_t t_thrown t_n t_modulus t_rows t_strands t_letters t_listedMany t_listN t_listWhat t_f_6 t_g t_h) := hD
  refine lv_iconst (v := 4) hx hb dX11_turnedBy_9 (by decide) ?_
  refine lv_iload_n hx hb dX11_turnedBy_10 rfl (lv_at hl 2 rfl) ?_
  refine lv_aload_n hx hb dX11_turnedBy_11 rfl (lv_at hl 0 rfl) ?_
  refine va_get (D := G) (ci := 10) (v := .ref (B_t 6)) (C := RX11) (T := TX11) (N := 29) hx hb hts inX11 hown hK hP 0 rfl rfl 6 (by decide) hf26 (fun _ h9 => h9) rfl dX11_turnedBy_12 ?_
  refine mc_vS ⟨hx, hb, hml, hown, hts⟩ hK hE hA hP hD hS (c_X11_permutation l G Y tF H.size (B_t 6) 8 t_g (4 : Int32) x2 h) (va_cwS 3 hts gX11_turnedBy_X11_permutation rfl rfl rfl (by decide +kernel) ⟨Nat.le_trans (by decide) hRf, Nat.le_trans (by decide) hRl⟩) (fun u => (w_X11_turnedBy Y h_t B_t t_thrown t_n t_modulus t_rows t_strands t_letters t_listedMany t_listN t_listWhat t_f_6 u t_h)) [2] [0, 1, 3] [0, 1, 3, 2] rfl rfl rfl rfl (by decide) (fun _ => rfl) rfl rfl hl.1 rfl (Nat.le_of_ble_eq_true rfl) dX11_turnedBy_15 (fun u H locs h hP hD hS => ?_)
  obtain ⟨t_g_15, rfl⟩ : ∃ z, z = u := ⟨_, rfl⟩
  try dsimp only at h
  have hP : va_P G vwCl (w_X11_turnedBy Y h_t B_t t_thrown t_n t_modulus t_rows t_strands t_letters t_listedMany t_listN t_listWhat t_f_6 t_g_15 t_h) H := hP
  have hD : va_D A (w_X11_turnedBy Y h_t B_t t_thrown t_n t_modulus t_rows t_strands t_letters t_listedMany t_listN t_listWhat t_f_6 t_g_15 t_h) := hD
  refine lv_iconst (v := 0) hx hb dX11_turnedBy_18 (by decide) ?_
  refine lv_istore_n (lv' := [(3, .int (0 : Int32)), (0, .ref h_t), (1, .int x1), (2, .int x2)]) hx hb dX11_turnedBy_19 rfl hl (by decide) rfl (fun ls hl => ?_)
  obtain ⟨I20, m20, hI20, hB20⟩ := h
  have L20 : ∀ (t_f : Nat → Int32) (t_g : Nat → Int32) (I20 : Int32 → (Nat → Int32) → Prop) (m20 : Int32 → (Nat → Int32) → Nat), (∀ (x3 : Int32) (t_h : Nat → Int32), I20 x3 t_h → pX11_turnedBy_20 K t_f t_g x3 t_h (fun x3' t_h' => I20 x3' t_h' ∧ m20 x3' t_h' < m20 x3 t_h)) → ∀ (n : Nat) (x3 : Int32) (t_h : Nat → Int32) (H : Heap) (locs : List Loc) (ls : Array Slot), I20 x3 t_h → m20 x3 t_h < n → va_P G vwCl (w_X11_turnedBy Y h_t B_t t_thrown t_n t_modulus t_rows t_strands t_letters t_listedMany t_listN t_listWhat t_f t_g t_h) H → va_D A (w_X11_turnedBy Y h_t B_t t_thrown t_n t_modulus t_rows t_strands t_letters t_listedMany t_listN t_listWhat t_f t_g t_h) → va_S A s.heap H locs → lv_has ls 4 [(0, .ref h_t), (3, .int x3)] → W p l e R s m args below meth c H locs 0 0 Q (F0 m 20 ls []) := by
    intro t_f t_g I20 m20 hB20 n
    induction n with
    | zero => intro x3 t_h H locs ls _ hm; exact absurd hm (Nat.not_lt_zero _)
    | succ n ih =>
      intro x3 t_h H locs ls hI hm hP hD hS hl
      obtain ⟨R20, h, rec20⟩ : ∃ R20 : Int32 → (Nat → Int32) → Prop, pX11_turnedBy_20 K t_f t_g x3 t_h R20 ∧ ∀ (x3 : Int32) (t_h : Nat → Int32) (H : Heap) (locs : List Loc) (ls : Array Slot), R20 x3 t_h → va_P G vwCl (w_X11_turnedBy Y h_t B_t t_thrown t_n t_modulus t_rows t_strands t_letters t_listedMany t_listN t_listWhat t_f t_g t_h) H → va_D A (w_X11_turnedBy Y h_t B_t t_thrown t_n t_modulus t_rows t_strands t_letters t_listedMany t_listN t_listWhat t_f t_g t_h) → va_S A s.heap H locs → lv_has ls 4 [(0, .ref h_t), (3, .int x3)] → W p l e R s m args below meth c H locs 0 0 Q (F0 m 20 ls []) := ⟨_, hB20 x3 t_h hI, fun x3 t_h H locs ls hh hP hD hS hl => ih x3 t_h H locs ls hh.1 (Nat.lt_of_lt_of_le hh.2 (Nat.le_of_lt_succ hm)) hP hD hS hl⟩
      refine lv_iload_n hx hb dX11_turnedBy_20 rfl (lv_at hl 1 rfl) ?_
      refine lv_iconst (v := 4) hx hb dX11_turnedBy_21 (by decide) ?_
      obtain ⟨ht, hf⟩ := h
      refine lv_icmp_ge (tgt := 53) hx hb dX11_turnedBy_22 (by decide) (fun c9 => ?_) (fun c9 => ?_)
      · have h := ht c9
        refine lv_iconst (v := 4) hx hb dX11_turnedBy_53 (by decide) ?_
        refine lv_aload_n hx hb dX11_turnedBy_54 rfl (lv_at hl 0 rfl) ?_
        refine va_get (D := G) (ci := 10) (v := .ref (B_t 7)) (C := RX11) (T := TX11) (N := 29) hx hb hts inX11 hown hK hP 0 rfl rfl 7 (by decide) hf29 (fun _ h9 => h9) rfl dX11_turnedBy_55 ?_
        refine mc_iS ⟨hx, hb, hml, hown, hts⟩ hK hE hA hP hD hS (c_X11_numberOf l G Y tF H.size (B_t 7) 8 t_h (4 : Int32) h) (va_cwS 2 hts gX11_turnedBy_X11_numberOf rfl rfl rfl (by decide +kernel) ⟨Nat.le_trans (by decide) hRf, Nat.le_trans (by decide) hRl⟩) (fun u => (w_X11_turnedBy Y h_t B_t t_thrown t_n t_modulus t_rows t_strands t_letters t_listedMany t_listN t_listWhat t_f t_g t_h)) [3] [0, 1, 2] [0, 1, 2, 3] rfl rfl rfl rfl (by decide) (fun _ => rfl) rfl rfl hl.1 rfl (Nat.le_of_ble_eq_true rfl) dX11_turnedBy_58 (fun r58 u H locs h hP hD hS => ?_)
        try dsimp only at h
        have hP : va_P G vwCl (w_X11_turnedBy Y h_t B_t t_thrown t_n t_modulus t_rows t_strands t_letters t_listedMany t_listN t_listWhat t_f t_g t_h) H := hP
        have hD : va_D A (w_X11_turnedBy Y h_t B_t t_thrown t_n t_modulus t_rows t_strands t_letters t_listedMany t_listN t_listWhat t_f t_g t_h) := hD
        exact hret r58 t_f t_g t_h H locs ls _ hP hD hS h dX11_turnedBy_61
      · have h := hf c9
        refine lv_aload_n hx hb dX11_turnedBy_25 rfl (lv_at hl 0 rfl) ?_
        refine va_get (D := G) (ci := 10) (v := .ref (B_t 7)) (C := RX11) (T := TX11) (N := 29) hx hb hts inX11 hown hK hP 0 rfl rfl 7 (by decide) hf29 (fun _ h9 => h9) rfl dX11_turnedBy_26 ?_
        refine lv_aload_n hx hb dX11_turnedBy_29 rfl (lv_at hl 0 rfl) ?_
        refine va_get (D := G) (ci := 10) (v := .ref (B_t 5)) (C := RX11) (T := TX11) (N := 29) hx hb hts inX11 hown hK hP 0 rfl rfl 5 (by decide) hf23 (fun _ h9 => h9) rfl dX11_turnedBy_30 ?_
        refine lv_iload_n hx hb dX11_turnedBy_33 rfl (lv_at hl 1 rfl) ?_
        obtain ⟨hin, h⟩ := h
        refine va_iald hx hb hK hP 1 0 rfl rfl hin dX11_turnedBy_34 ?_
        refine lv_aload_n hx hb dX11_turnedBy_35 rfl (lv_at hl 0 rfl) ?_
        refine va_get (D := G) (ci := 10) (v := .ref (B_t 5)) (C := RX11) (T := TX11) (N := 29) hx hb hts inX11 hown hK hP 0 rfl rfl 5 (by decide) hf23 (fun _ h9 => h9) rfl dX11_turnedBy_36 ?_
        refine lv_aload_n hx hb dX11_turnedBy_39 rfl (lv_at hl 0 rfl) ?_
        refine va_get (D := G) (ci := 10) (v := .ref (B_t 6)) (C := RX11) (T := TX11) (N := 29) hx hb hts inX11 hown hK hP 0 rfl rfl 6 (by decide) hf26 (fun _ h9 => h9) rfl dX11_turnedBy_40 ?_
        refine lv_iload_n hx hb dX11_turnedBy_43 rfl (lv_at hl 1 rfl) ?_
        obtain ⟨hin, h⟩ := h
        refine va_iald hx hb hK hP 2 0 rfl rfl hin dX11_turnedBy_44 ?_
        obtain ⟨hin, h⟩ := h
        refine va_iald hx hb hK hP 1 0 rfl rfl hin dX11_turnedBy_45 ?_
        obtain ⟨hin, h⟩ := h
        refine va_iast hx hb hK hP hD hS 3 0 rfl rfl hin dX11_turnedBy_46 (fun H locs hP hD hS => ?_)
        have hP : va_P G vwCl (w_X11_turnedBy Y h_t B_t t_thrown t_n t_modulus t_rows t_strands t_letters t_listedMany t_listN t_listWhat t_f t_g (upd t_h (Int32.toNatClampNeg (t_f (Int32.toNatClampNeg x3))) (t_f (Int32.toNatClampNeg (t_g (Int32.toNatClampNeg x3)))))) H := hP
        have hD : va_D A (w_X11_turnedBy Y h_t B_t t_thrown t_n t_modulus t_rows t_strands t_letters t_listedMany t_listN t_listWhat t_f t_g (upd t_h (Int32.toNatClampNeg (t_f (Int32.toNatClampNeg x3))) (t_f (Int32.toNatClampNeg (t_g (Int32.toNatClampNeg x3)))))) := hD
        refine lv_iinc (v := (x3 + 1)) (lv' := [(3, .int (x3 + 1)), (0, .ref h_t)]) hx hb dX11_turnedBy_47 hl (k := 1) rfl rfl (by decide) rfl (fun ls hl => ?_)
        refine lv_goto (tgt := 20) hx hb dX11_turnedBy_50 (by decide) ?_
        exact rec20 (x3 + 1) (upd t_h (Int32.toNatClampNeg (t_f (Int32.toNatClampNeg x3))) (t_f (Int32.toNatClampNeg (t_g (Int32.toNatClampNeg x3))))) H locs ls h hP hD hS (lv_sub hl [1, 0] rfl)
  exact L20 t_f_6 t_g_15 I20 m20 hB20 _ (0 : Int32) t_h H locs ls hI20 (Nat.lt_succ_self _) hP hD hS (lv_sub hl [1, 0] rfl)

set_option maxHeartbeats 4000000 in
set_option maxRecDepth 100000 in
theorem c_X11_turnedBy (l : Launch) (G : va_G) (Y : Nat → ClassId) (tF sz : Nat) (h_t : Nat) (B_t : Nat → Nat) (t_thrown : Int32) (t_n : Int32) (t_modulus : Int32) (t_rows : Int32) (t_strands : Int32) (t_letters : Int32) (t_listedMany : Int32) (t_listN : Int32) (t_listWhat : Int32) (t_f : Nat → Int32) (t_g : Nat → Int32) (t_h : Nat → Int32) (x1 : Int32) (x2 : Int32) {K : Int32 → (Nat → Int32) → (Nat → Int32) → (Nat → Int32) → Prop} (h : pX11_turnedBy t_f t_g t_h x1 x2 K) : Met l yX11_turnedBy wsX11_turnedBy ({ frames := 12, cells := 0, slots := 0, locals := 248 }) (PcM G Y tF sz (w_X11_turnedBy Y h_t B_t t_thrown t_n t_modulus t_rows t_strands t_letters t_listedMany t_listN t_listWhat t_f t_g t_h) [.ref h_t, .int x1, .int x2]) (va_Qi (fun (r : Int32) (u : (Nat → Int32) × (Nat → Int32) × (Nat → Int32)) => K r u.1 u.2.1 u.2.2) (fun u t => BM G Y (va_A (w_X11_turnedBy Y h_t B_t t_thrown t_n t_modulus t_rows t_strands t_letters t_listedMany t_listN t_listWhat t_f t_g t_h) sz) (w_X11_turnedBy Y h_t B_t t_thrown t_n t_modulus t_rows t_strands t_letters t_listedMany t_listN t_listWhat u.1 u.2.1 u.2.2) t) (va_A (w_X11_turnedBy Y h_t B_t t_thrown t_n t_modulus t_rows t_strands t_letters t_listedMany t_listN t_listWhat t_f t_g t_h) sz)) 0 0 (va_A (w_X11_turnedBy Y h_t B_t t_thrown t_n t_modulus t_rows t_strands t_letters t_listedMany t_listN t_listWhat t_f t_g t_h) sz) := by
  refine Met.ofW (cc := cX11_turnedBy) (maxL := 4) (ret := (some .int)) (by decide +kernel) rfl ?_
  intro p e s m args below meth c s₁ B hml hv
  obtain ⟨rfl, hsz, hP, hK, hD0, hE⟩ := hv
  have hts := atoms_spec (ws := wsX11_turnedBy) B.pre
  have hown : s.vm.findClass RX11 = some m.cls := findClass_of_methodNamed B.named
  have hlocks := B.notSynchronized
  subst hsz
  have hD := hD0.self (sz := s.heap.size)
  exact wk_X11_turnedBy h_t B_t t_thrown t_n t_modulus t_rows t_strands t_letters t_listedMany t_listN t_listWhat t_f t_g t_h x1 x2 B.exec B.bytes hml hown hts hK hE (fun q h => Or.inr h) (Nat.le_refl _) (Nat.le_refl _) (fun r t_f t_g t_h H locs ls pc hP hD hS hk hd => W.iret (v := r) B.exec B.bytes B.returns (fun t ht hW => ⟨⟨r, (t_f, t_g, t_h), rfl, hk, by rw [ht]; exact hP, va_K.moved hW.alike hK, hD⟩, hS.F ht⟩) hS.2.2 hd) hP hD h

abbrev w_X11_group (Y : Nat → ClassId) (h_t : Nat) (B_t : Nat → Nat) (t_thrown : Int32) (t_n : Int32) (t_modulus : Int32) (t_rows : Int32) (t_strands : Int32) (t_letters : Int32) (t_listedMany : Int32) (t_listN : Int32) (t_listWhat : Int32) (t_f : Nat → Int32) (t_g : Nat → Int32) (t_h : Nat → Int32) (t_members : Nat → Int32) (t_table : Nat → Int32) (t_twists : Nat → Int32) : va_W := [(h_t, .inr (10, [.int t_thrown, .int t_n, .ref (B_t 2), .int t_modulus, .ref (B_t 4), .ref (B_t 5), .ref (B_t 6), .ref (B_t 7), .ref (B_t 8), .ref (B_t 9), .ref (B_t 10), .int t_rows, .ref (B_t 12), .ref (B_t 13), .ref (B_t 14), .ref (B_t 15), .ref (B_t 16), .ref (B_t 17), .ref (B_t 18), .ref (B_t 19), .int t_strands, .int t_letters, .ref (B_t 22), .ref (B_t 23), .ref (B_t 24), .ref (B_t 25), .int t_listedMany, .int t_listN, .int t_listWhat])), ((B_t 5), .inl (Y 0, 8, .inl t_f)), ((B_t 6), .inl (Y 0, 8, .inl t_g)), ((B_t 7), .inl (Y 0, 8, .inl t_h)), ((B_t 8), .inl (Y 0, 8, .inl t_members)), ((B_t 2), .inl (Y 0, 64, .inl t_table)), ((B_t 4), .inl (Y 0, 64, .inl t_twists))]

set_option maxHeartbeats 4000000 in
set_option maxRecDepth 100000 in
theorem wk_X11_group {p : Program} {l : Launch} {e : Env} {R : Room} {s : State} {m : MethodId} {args : Array Value} {below : List Frame} {meth : Method} {c : Code} {Q : State → Prop} {G : va_G} {Y : Nat → ClassId} {tF : Nat} {A : Nat → Prop} (h_t : Nat) (B_t : Nat → Nat) (t_thrown : Int32) (t_n : Int32) (t_modulus : Int32) (t_rows : Int32) (t_strands : Int32) (t_letters : Int32) (t_listedMany : Int32) (t_listN : Int32) (t_listWhat : Int32) (t_f : Nat → Int32) (t_g : Nat → Int32) (t_h : Nat → Int32) (t_members : Nat → Int32) (t_table : Nat → Int32) (t_twists : Nat → Int32) (x1 : Int32) {K : Int32 → Int32 → Int32 → (Nat → Int32) → (Nat → Int32) → (Nat → Int32) → (Nat → Int32) → (Nat → Int32) → (Nat → Int32) → Prop} (hx : p.tables.exec = Jvm.exec) (hb : c.code = cX11_group) (hml : c.maxLocals = 8) (hown : s.vm.findClass RX11 = some m.cls) (hts : ∀ w ∈ wsX11_group, w.before args s = true) (hK : va_K G vwCl (tyL Y) s) (hE : Ev A tF s) (hA : ∀ q, s.heap.size ≤ q → A q) (hRf : 13 ≤ R.frames) (hRl : 271 ≤ R.locals) (hret : ∀ (r : Int32) (t_thrown : Int32) (t_n : Int32) (t_f : Nat → Int32) (t_g : Nat → Int32) (t_h : Nat → Int32) (t_members : Nat → Int32) (t_table : Nat → Int32) (t_twists : Nat → Int32) (H : Heap) (locs : List Loc) (ls : Array Slot) (pc : Nat), va_P G vwCl (w_X11_group Y h_t B_t t_thrown t_n t_modulus t_rows t_strands t_letters t_listedMany t_listN t_listWhat t_f t_g t_h t_members t_table t_twists) H → va_D A (w_X11_group Y h_t B_t t_thrown t_n t_modulus t_rows t_strands t_letters t_listedMany t_listN t_listWhat t_f t_g t_h t_members t_table t_twists) → va_S A s.heap H locs → K r t_thrown t_n t_f t_g t_h t_members t_table t_twists → decode cX11_group pc = .ok (.ireturn, 1) → W p l e R s m args below meth c H locs 0 0 Q (F0 m pc ls [.int r])) (hP : va_P G vwCl (w_X11_group Y h_t B_t t_thrown t_n t_modulus t_rows t_strands t_letters t_listedMany t_listN t_listWhat t_f t_g t_h t_members t_table t_twists) s.heap) (hD : va_D A (w_X11_group Y h_t B_t t_thrown t_n t_modulus t_rows t_strands t_letters t_listedMany t_listN t_listWhat t_f t_g t_h t_members t_table t_twists)) (h : pX11_group t_thrown t_n t_f t_g t_h t_members t_table t_twists x1 K) : W p l e R s m args below meth c s.heap [] 0 0 Q (entryFrame m ([.ref h_t, .int x1] : List Value).toArray 8) := by
  have inX11 : ∀ w ∈ u_ws RX11 TX11 29, w ∈ wsX11_group := by decide +kernel
  have hf13 := hts (.fieldLink RX11 13 "RackBenchModel" "table" "[I") (by decide +kernel)
  have hf32 := hts (.fieldLink RX11 32 "RackBenchModel" "members" "[I") (by decide +kernel)
  have hf83 := hts (.fieldLink RX11 83 "RackBenchModel" "thrown" "I") (by decide +kernel)
  have hf9 := hts (.fieldLink RX11 9 "RackBenchModel" "n" "I") (by decide +kernel)
  have hcL131 := hts (.constantLong RX11 131 (23)) (by decide +kernel)
  have hl := lv_entry ([.ref h_t, .int x1]) (n := 8) (Nat.le_of_ble_eq_true rfl)
  rw [lg_entry_eq]
  generalize (lg_sl ([.ref h_t, .int x1]) ++ List.replicate (8 - (lg_sl ([.ref h_t, .int x1])).length) Slot.unset).toArray = ls at hl ⊢
  have hl : lv_has ls 8 [(0, .ref h_t), (1, .int x1)] := hl
  generalize hH0 : s.heap = H at hP ⊢
  have hS : va_S A s.heap H [] := by rw [← hH0]; exact va_S.rf
  clear hH0
  generalize ([] : List Loc) = locs at hS ⊢
  refine lv_aload_n hx hb dX11_group_0 rfl (lv_at hl 0 rfl) ?_
  refine lv_iconst (v := 0) hx hb dX11_group_1 (by decide) ?_
  refine va_put (D := G) (ci := 10) (v := .int (0 : Int32)) (ty := .int) (C := RX11) (T := TX11) (N := 29) hx hb hts inX11 tyX11 tyX11_ok nmX11 hown hK hP hD hS 0 rfl rfl 0 (by decide) hf83 (fun _ h9 => h9) rfl (by decide +kernel) rfl rfl (Nat.le_of_ble_eq_true rfl) dX11_group_2 (fun H locs hP hD hS => ?_)
  have hP : va_P G vwCl (w_X11_group Y h_t B_t (0 : Int32) t_n t_modulus t_rows t_strands t_letters t_listedMany t_listN t_listWhat t_f t_g t_h t_members t_table t_twists) H := hP
  have hD : va_D A (w_X11_group Y h_t B_t (0 : Int32) t_n t_modulus t_rows t_strands t_letters t_listedMany t_listN t_listWhat t_f t_g t_h t_members t_table t_twists) := hD
  refine lv_iload_n hx hb dX11_group_5 rfl (lv_at hl 1 rfl) ?_
  refine lv_i2l hx hb dX11_group_6 rfl ?_
  refine lv_lconst (v := 0) hx hb dX11_group_7 (by decide) ?_
  refine lv_ldc2 (v := 23) hx hb hown hcL131 dX11_group_8 ?_
  refine mc_iS ⟨hx, hb, hml, hown, hts⟩ hK hE hA hP hD hS (c_X11_in l G Y tF H.size (Int32.toInt64 x1) (0 : Int64) (23 : Int64) h) (va_cwS 3 hts gX11_group_X11_in rfl rfl rfl (by decide +kernel) ⟨Nat.le_trans (by decide) hRf, Nat.le_trans (by decide) hRl⟩) (fun u => (w_X11_group Y h_t B_t (0 : Int32) t_n t_modulus t_rows t_strands t_letters t_listedMany t_listN t_listWhat t_f t_g t_h t_members t_table t_twists)) [] [0, 1, 2, 3, 4, 5, 6] [0, 1, 2, 3, 4, 5, 6] rfl rfl rfl rfl (by decide) (fun _ => rfl) rfl rfl hl.1 rfl (Nat.le_of_ble_eq_true rfl) dX11_group_11 (fun r11 u H locs h hP hD hS => ?_)
  try dsimp only at h
  have hP : va_P G vwCl (w_X11_group Y h_t B_t (0 : Int32) t_n t_modulus t_rows t_strands t_letters t_listedMany t_listN t_listWhat t_f t_g t_h t_members t_table t_twists) H := hP
  have hD : va_D A (w_X11_group Y h_t B_t (0 : Int32) t_n t_modulus t_rows t_strands t_letters t_listedMany t_listN t_listWhat t_f t_g t_h t_members t_table t_twists) := hD
  obtain ⟨ht, hf⟩ := h
  refine lv_if_ne (tgt := 19) hx hb dX11_group_14 (by decide) (fun c9 => ?_) (fun c9 => ?_)
  · have h := ht c9
    refine lv_iconst (v := 0) hx hb dX11_group_19 (by decide) ?_
    refine lv_istore_n (lv' := [(2, .int (0 : Int32)), (0, .ref h_t), (1, .int x1)]) hx hb dX11_group_20 rfl hl (by decide) rfl (fun ls hl => ?_)
    refine lv_iconst (v := 0) hx hb dX11_group_21 (by decide) ?_
    refine lv_istore_n (lv' := [(3, .int (0 : Int32)), (2, .int (0 : Int32)), (0, .ref h_t), (1, .int x1)]) hx hb dX11_group_22 rfl hl (by decide) rfl (fun ls hl => ?_)
    obtain ⟨I23, m23, hI23, hB23⟩ := h
    have L23 : ∀ (x1 : Int32) (t_thrown : Int32) (t_n : Int32) (t_members : Nat → Int32) (t_table : Nat → Int32) (t_twists : Nat → Int32) (I23 : Int32 → Int32 → (Nat → Int32) → (Nat → Int32) → (Nat → Int32) → Prop) (m23 : Int32 → Int32 → (Nat → Int32) → (Nat → Int32) → (Nat → Int32) → Nat), (∀ (x2 : Int32) (x3 : Int32) (t_f : Nat → Int32) (t_g : Nat → Int32) (t_h : Nat → Int32), I23 x2 x3 t_f t_g t_h → pX11_group_23 K x1 t_thrown t_n t_members t_table t_twists x2 x3 t_f t_g t_h (fun x2' x3' t_f' t_g' t_h' => I23 x2' x3' t_f' t_g' t_h' ∧ m23 x2' x3' t_f' t_g' t_h' < m23 x2 x3 t_f t_g t_h)) → ∀ (n : Nat) (x2 : Int32) (x3 : Int32) (t_f : Nat → Int32) (t_g : Nat → Int32) (t_h : Nat → Int32) (H : Heap) (locs : List Loc) (ls : Array Slot), I23 x2 x3 t_f t_g t_h → m23 x2 x3 t_f t_g t_h < n → va_P G vwCl (w_X11_group Y h_t B_t t_thrown t_n t_modulus t_rows t_strands t_letters t_listedMany t_listN t_listWhat t_f t_g t_h t_members t_table t_twists) H → va_D A (w_X11_group Y h_t B_t t_thrown t_n t_modulus t_rows t_strands t_letters t_listedMany t_listN t_listWhat t_f t_g t_h t_members t_table t_twists) → va_S A s.heap H locs → lv_has ls 8 [(0, .ref h_t), (1, .int x1), (2, .int x2), (3, .int x3)] → W p l e R s m args below meth c H locs 0 0 Q (F0 m 23 ls []) := by
      intro x1 t_thrown t_n t_members t_table t_twists I23 m23 hB23 n
      induction n with
      | zero => intro x2 x3 t_f t_g t_h H locs ls _ hm; exact absurd hm (Nat.not_lt_zero _)
      | succ n ih =>
        intro x2 x3 t_f t_g t_h H locs ls hI hm hP hD hS hl
        obtain ⟨R23, h, rec23⟩ : ∃ R23 : Int32 → Int32 → (Nat → Int32) → (Nat → Int32) → (Nat → Int32) → Prop, pX11_group_23 K x1 t_thrown t_n t_members t_table t_twists x2 x3 t_f t_g t_h R23 ∧ ∀ (x2 : Int32) (x3 : Int32) (t_f : Nat → Int32) (t_g : Nat → Int32) (t_h : Nat → Int32) (H : Heap) (locs : List Loc) (ls : Array Slot), R23 x2 x3 t_f t_g t_h → va_P G vwCl (w_X11_group Y h_t B_t t_thrown t_n t_modulus t_rows t_strands t_letters t_listedMany t_listN t_listWhat t_f t_g t_h t_members t_table t_twists) H → va_D A (w_X11_group Y h_t B_t t_thrown t_n t_modulus t_rows t_strands t_letters t_listedMany t_listN t_listWhat t_f t_g t_h t_members t_table t_twists) → va_S A s.heap H locs → lv_has ls 8 [(0, .ref h_t), (1, .int x1), (2, .int x2), (3, .int x3)] → W p l e R s m args below meth c H locs 0 0 Q (F0 m 23 ls []) := ⟨_, hB23 x2 x3 t_f t_g t_h hI, fun x2 x3 t_f t_g t_h H locs ls hh hP hD hS hl => ih x2 x3 t_f t_g t_h H locs ls hh.1 (Nat.lt_of_lt_of_le hh.2 (Nat.le_of_lt_succ hm)) hP hD hS hl⟩
        refine lv_iload_n hx hb dX11_group_23 rfl (lv_at hl 3 rfl) ?_
        refine lv_bipush (v := 24) hx hb dX11_group_24 (by decide) ?_
        obtain ⟨ht, hf⟩ := h
        refine lv_icmp_ge (tgt := 46) hx hb dX11_group_26 (by decide) (fun c9 => ?_) (fun c9 => ?_)
        · have h := ht c9
          refine lv_iconst (v := 0) hx hb dX11_group_46 (by decide) ?_
          refine lv_istore_n (lv' := [(3, .int (0 : Int32)), (0, .ref h_t), (1, .int x1), (2, .int x2)]) hx hb dX11_group_47 rfl hl (by decide) rfl (fun ls hl => ?_)
          refine lv_iconst (v := 0) hx hb dX11_group_48 (by decide) ?_
          refine lv_istore (lv' := [(4, .int (0 : Int32)), (3, .int (0 : Int32)), (0, .ref h_t), (1, .int x1), (2, .int x2)]) hx hb dX11_group_49 hl (by decide) rfl (fun ls hl => ?_)
          obtain ⟨I51, m51, hI51, hB51⟩ := h
          have L51 : ∀ (x2 : Int32) (t_thrown : Int32) (t_n : Int32) (t_f : Nat → Int32) (t_g : Nat → Int32) (t_h : Nat → Int32) (t_table : Nat → Int32) (t_twists : Nat → Int32) (I51 : Int32 → Int32 → (Nat → Int32) → Prop) (m51 : Int32 → Int32 → (Nat → Int32) → Nat), (∀ (x3 : Int32) (x4 : Int32) (t_members : Nat → Int32), I51 x3 x4 t_members → pX11_group_51 R23 K x2 t_thrown t_n t_f t_g t_h t_table t_twists x3 x4 t_members (fun x3' x4' t_members' => I51 x3' x4' t_members' ∧ m51 x3' x4' t_members' < m51 x3 x4 t_members)) → ∀ (n : Nat) (x3 : Int32) (x4 : Int32) (t_members : Nat → Int32) (H : Heap) (locs : List Loc) (ls : Array Slot), I51 x3 x4 t_members → m51 x3 x4 t_members < n → va_P G vwCl (w_X11_group Y h_t B_t t_thrown t_n t_modulus t_rows t_strands t_letters t_listedMany t_listN t_listWhat t_f t_g t_h t_members t_table t_twists) H → va_D A (w_X11_group Y h_t B_t t_thrown t_n t_modulus t_rows t_strands t_letters t_listedMany t_listN t_listWhat t_f t_g t_h t_members t_table t_twists) → va_S A s.heap H locs → lv_has ls 8 [(0, .ref h_t), (2, .int x2), (3, .int x3), (4, .int x4)] → W p l e R s m args below meth c H locs 0 0 Q (F0 m 51 ls []) := by
            intro x2 t_thrown t_n t_f t_g t_h t_table t_twists I51 m51 hB51 n
            induction n with
            | zero => intro x3 x4 t_members H locs ls _ hm; exact absurd hm (Nat.not_lt_zero _)
            | succ n ih =>
              intro x3 x4 t_members H locs ls hI hm hP hD hS hl
              obtain ⟨R51, h, rec51⟩ : ∃ R51 : Int32 → Int32 → (Nat → Int32) → Prop, pX11_group_51 R23 K x2 t_thrown t_n t_f t_g t_h t_table t_twists x3 x4 t_members R51 ∧ ∀ (x3 : Int32) (x4 : Int32) (t_members : Nat → Int32) (H : Heap) (locs : List Loc) (ls : Array Slot), R51 x3 x4 t_members → va_P G vwCl (w_X11_group Y h_t B_t t_thrown t_n t_modulus t_rows t_strands t_letters t_listedMany t_listN t_listWhat t_f t_g t_h t_members t_table t_twists) H → va_D A (w_X11_group Y h_t B_t t_thrown t_n t_modulus t_rows t_strands t_letters t_listedMany t_listN t_listWhat t_f t_g t_h t_members t_table t_twists) → va_S A s.heap H locs → lv_has ls 8 [(0, .ref h_t), (2, .int x2), (3, .int x3), (4, .int x4)] → W p l e R s m args below meth c H locs 0 0 Q (F0 m 51 ls []) := ⟨_, hB51 x3 x4 t_members hI, fun x3 x4 t_members H locs ls hh hP hD hS hl => ih x3 x4 t_members H locs ls hh.1 (Nat.lt_of_lt_of_le hh.2 (Nat.le_of_lt_succ hm)) hP hD hS hl⟩
              refine lv_iload hx hb dX11_group_51 (lv_at hl 3 rfl) ?_
              refine lv_bipush (v := 24) hx hb dX11_group_53 (by decide) ?_
              obtain ⟨ht, hf⟩ := h
              refine lv_icmp_ge (tgt := 85) hx hb dX11_group_55 (by decide) (fun c9 => ?_) (fun c9 => ?_)
              · have h := ht c9
                refine lv_aload_n hx hb dX11_group_85 rfl (lv_at hl 0 rfl) ?_
                refine lv_iload_n hx hb dX11_group_86 rfl (lv_at hl 2 rfl) ?_
                refine mc_vV ⟨hx, hb, hml, hown, hts⟩ hK hE hA hP hD hS (c_X11_sized l G Y tF H.size h_t B_t t_thrown t_n t_modulus t_rows t_strands t_letters t_listedMany t_listN t_listWhat t_twists x3 h) (cwV 1 hts gX11_group_X11_sized rfl rfl rfl (by decide +kernel) ⟨Nat.le_trans (by decide) hRf, Nat.le_trans (by decide) hRl⟩) (fun u => (w_X11_group Y h_t B_t t_thrown u.1 t_modulus t_rows t_strands t_letters t_listedMany t_listN t_listWhat t_f t_g t_h t_members t_table u.2)) [0, 6] [1, 2, 3, 4, 5] [5, 0, 1, 2, 3, 4, 6] rfl rfl rfl rfl (by decide) (fun _ => rfl) rfl 0 10 rfl rfl rfl rfl hl.1 rfl (Nat.le_of_ble_eq_true rfl) dX11_group_87 (fun u H locs h hP hD hS => ?_)
                obtain ⟨t_n_87, t_twists_87⟩ := u
                try dsimp only at h
                have hP : va_P G vwCl (w_X11_group Y h_t B_t t_thrown t_n_87 t_modulus t_rows t_strands t_letters t_listedMany t_listN t_listWhat t_f t_g t_h t_members t_table t_twists_87) H := hP
                have hD : va_D A (w_X11_group Y h_t B_t t_thrown t_n_87 t_modulus t_rows t_strands t_letters t_listedMany t_listN t_listWhat t_f t_g t_h t_members t_table t_twists_87) := hD
                refine lv_iconst (v := 0) hx hb dX11_group_90 (by decide) ?_
                refine lv_istore (lv' := [(4, .int (0 : Int32)), (0, .ref h_t), (2, .int x2), (3, .int x3)]) hx hb dX11_group_91 hl (by decide) rfl (fun ls hl => ?_)
                obtain ⟨I93, m93, hI93, hB93⟩ := h
                have L93 : ∀ (x3 : Int32) (t_thrown : Int32) (t_n : Int32) (t_members : Nat → Int32) (t_twists : Nat → Int32) (I93 : Int32 → (Nat → Int32) → (Nat → Int32) → (Nat → Int32) → (Nat → Int32) → Prop) (m93 : Int32 → (Nat → Int32) → (Nat → Int32) → (Nat → Int32) → (Nat → Int32) → Nat), (∀ (x4 : Int32) (t_f : Nat → Int32) (t_g : Nat → Int32) (t_h : Nat → Int32) (t_table : Nat → Int32), I93 x4 t_f t_g t_h t_table → pX11_group_93 R51 K x3 t_thrown t_n t_members t_twists x4 t_f t_g t_h t_table (fun x4' t_f' t_g' t_h' t_table' => I93 x4' t_f' t_g' t_h' t_table' ∧ m93 x4' t_f' t_g' t_h' t_table' < m93 x4 t_f t_g t_h t_table)) → ∀ (n : Nat) (x4 : Int32) (t_f : Nat → Int32) (t_g : Nat → Int32) (t_h : Nat → Int32) (t_table : Nat → Int32) (H : Heap) (locs : List Loc) (ls : Array Slot), I93 x4 t_f t_g t_h t_table → m93 x4 t_f t_g t_h t_table < n → va_P G vwCl (w_X11_group Y h_t B_t t_thrown t_n t_modulus t_rows t_strands t_letters t_listedMany t_listN t_listWhat t_f t_g t_h t_members t_table t_twists) H → va_D A (w_X11_group Y h_t B_t t_thrown t_n t_modulus t_rows t_strands t_letters t_listedMany t_listN t_listWhat t_f t_g t_h t_members t_table t_twists) → va_S A s.heap H locs → lv_has ls 8 [(0, .ref h_t), (3, .int x3), (4, .int x4)] → W p l e R s m args below meth c H locs 0 0 Q (F0 m 93 ls []) := by
                  intro x3 t_thrown t_n t_members t_twists I93 m93 hB93 n
                  induction n with
                  | zero => intro x4 t_f t_g t_h t_table H locs ls _ hm; exact absurd hm (Nat.not_lt_zero _)
                  | succ n ih =>
                    intro x4 t_f t_g t_h t_table H locs ls hI hm hP hD hS hl
                    obtain ⟨R93, h, rec93⟩ : ∃ R93 : Int32 → (Nat → Int32) → (Nat → Int32) → (Nat → Int32) → (Nat → Int32) → Prop, pX11_group_93 R51 K x3 t_thrown t_n t_members t_twists x4 t_f t_g t_h t_table R93 ∧ ∀ (x4 : Int32) (t_f : Nat → Int32) (t_g : Nat → Int32) (t_h : Nat → Int32) (t_table : Nat → Int32) (H : Heap) (locs : List Loc) (ls : Array Slot), R93 x4 t_f t_g t_h t_table → va_P G vwCl (w_X11_group Y h_t B_t t_thrown t_n t_modulus t_rows t_strands t_letters t_listedMany t_listN t_listWhat t_f t_g t_h t_members t_table t_twists) H → va_D A (w_X11_group Y h_t B_t t_thrown t_n t_modulus t_rows t_strands t_letters t_listedMany t_listN t_listWhat t_f t_g t_h t_members t_table t_twists) → va_S A s.heap H locs → lv_has ls 8 [(0, .ref h_t), (3, .int x3), (4, .int x4)] → W p l e R s m args below meth c H locs 0 0 Q (F0 m 93 ls []) := ⟨_, hB93 x4 t_f t_g t_h t_table hI, fun x4 t_f t_g t_h t_table H locs ls hh hP hD hS hl => ih x4 t_f t_g t_h t_table H locs ls hh.1 (Nat.lt_of_lt_of_le hh.2 (Nat.le_of_lt_succ hm)) hP hD hS hl⟩
                    refine lv_iload hx hb dX11_group_93 (lv_at hl 2 rfl) ?_
                    refine lv_iload_n hx hb dX11_group_95 rfl (lv_at hl 1 rfl) ?_
                    obtain ⟨ht, hf⟩ := h
                    refine lv_icmp_ge (tgt := 182) hx hb dX11_group_96 (by decide) (fun c9 => ?_) (fun c9 => ?_)
                    · have h := ht c9
                      refine lv_aload_n hx hb dX11_group_182 rfl (lv_at hl 0 rfl) ?_
                      refine va_get (D := G) (ci := 10) (v := .int t_n) (C := RX11) (T := TX11) (N := 29) hx hb hts inX11 hown hK hP 0 rfl rfl 1 (by decide) hf9 (fun _ h9 => h9) rfl dX11_group_183 ?_
                      exact hret t_n t_thrown t_n t_f t_g t_h t_members t_table t_twists H locs ls _ hP hD hS h dX11_group_186
                    · have h := hf c9
                      refine lv_iconst (v := 0) hx hb dX11_group_99 (by decide) ?_
                      refine lv_istore (lv' := [(5, .int (0 : Int32)), (0, .ref h_t), (3, .int x3), (4, .int x4)]) hx hb dX11_group_100 hl (by decide) rfl (fun ls hl => ?_)
                      obtain ⟨I102, m102, hI102, hB102⟩ := h
                      have L102 : ∀ (x4 : Int32) (I102 : Int32 → (Nat → Int32) → (Nat → Int32) → (Nat → Int32) → (Nat → Int32) → Prop) (m102 : Int32 → (Nat → Int32) → (Nat → Int32) → (Nat → Int32) → (Nat → Int32) → Nat), (∀ (x5 : Int32) (t_f : Nat → Int32) (t_g : Nat → Int32) (t_h : Nat → Int32) (t_table : Nat → Int32), I102 x5 t_f t_g t_h t_table → pX11_group_102 R93 K x3 t_thrown t_n t_members t_twists x4 x5 t_f t_g t_h t_table (fun x5' t_f' t_g' t_h' t_table' => I102 x5' t_f' t_g' t_h' t_table' ∧ m102 x5' t_f' t_g' t_h' t_table' < m102 x5 t_f t_g t_h t_table)) → ∀ (n : Nat) (x5 : Int32) (t_f : Nat → Int32) (t_g : Nat → Int32) (t_h : Nat → Int32) (t_table : Nat → Int32) (H : Heap) (locs : List Loc) (ls : Array Slot), I102 x5 t_f t_g t_h t_table → m102 x5 t_f t_g t_h t_table < n → va_P G vwCl (w_X11_group Y h_t B_t t_thrown t_n t_modulus t_rows t_strands t_letters t_listedMany t_listN t_listWhat t_f t_g t_h t_members t_table t_twists) H → va_D A (w_X11_group Y h_t B_t t_thrown t_n t_modulus t_rows t_strands t_letters t_listedMany t_listN t_listWhat t_f t_g t_h t_members t_table t_twists) → va_S A s.heap H locs → lv_has ls 8 [(0, .ref h_t), (3, .int x3), (4, .int x4), (5, .int x5)] → W p l e R s m args below meth c H locs 0 0 Q (F0 m 102 ls []) := by
                        intro x4 I102 m102 hB102 n
                        induction n with
                        | zero => intro x5 t_f t_g t_h t_table H locs ls _ hm; exact absurd hm (Nat.not_lt_zero _)
                        | succ n ih =>
                          intro x5 t_f t_g t_h t_table H locs ls hI hm hP hD hS hl
                          obtain ⟨R102, h, rec102⟩ : ∃ R102 : Int32 → (Nat → Int32) → (Nat → Int32) → (Nat → Int32) → (Nat → Int32) → Prop, pX11_group_102 R93 K x3 t_thrown t_n t_members t_twists x4 x5 t_f t_g t_h t_table R102 ∧ ∀ (x5 : Int32) (t_f : Nat → Int32) (t_g : Nat → Int32) (t_h : Nat → Int32) (t_table : Nat → Int32) (H : Heap) (locs : List Loc) (ls : Array Slot), R102 x5 t_f t_g t_h t_table → va_P G vwCl (w_X11_group Y h_t B_t t_thrown t_n t_modulus t_rows t_strands t_letters t_listedMany t_listN t_listWhat t_f t_g t_h t_members t_table t_twists) H → va_D A (w_X11_group Y h_t B_t t_thrown t_n t_modulus t_rows t_strands t_letters t_listedMany t_listN t_listWhat t_f t_g t_h t_members t_table t_twists) → va_S A s.heap H locs → lv_has ls 8 [(0, .ref h_t), (3, .int x3), (4, .int x4), (5, .int x5)] → W p l e R s m args below meth c H locs 0 0 Q (F0 m 102 ls []) := ⟨_, hB102 x5 t_f t_g t_h t_table hI, fun x5 t_f t_g t_h t_table H locs ls hh hP hD hS hl => ih x5 t_f t_g t_h t_table H locs ls hh.1 (Nat.lt_of_lt_of_le hh.2 (Nat.le_of_lt_succ hm)) hP hD hS hl⟩
                          refine lv_iload hx hb dX11_group_102 (lv_at hl 3 rfl) ?_
                          refine lv_iload_n hx hb dX11_group_104 rfl (lv_at hl 1 rfl) ?_
                          obtain ⟨ht, hf⟩ := h
                          refine lv_icmp_ge (tgt := 176) hx hb dX11_group_105 (by decide) (fun c9 => ?_) (fun c9 => ?_)
                          · have h := ht c9
                            refine lv_iinc (v := (x4 + 1)) (lv' := [(4, .int (x4 + 1)), (0, .ref h_t), (3, .int x3), (5, .int x5)]) hx hb dX11_group_176 hl (k := 2) rfl rfl (by decide) rfl (fun ls hl => ?_)
                            refine lv_goto (tgt := 93) hx hb dX11_group_179 (by decide) ?_
                            exact rec93 (x4 + 1) t_f t_g t_h t_table H locs ls h hP hD hS (lv_sub hl [1, 2, 0] rfl)
                          · have h := hf c9
                            refine lv_aload_n hx hb dX11_group_108 rfl (lv_at hl 0 rfl) ?_
                            refine lv_aload_n hx hb dX11_group_109 rfl (lv_at hl 0 rfl) ?_
                            refine va_get (D := G) (ci := 10) (v := .ref (B_t 8)) (C := RX11) (T := TX11) (N := 29) hx hb hts inX11 hown hK hP 0 rfl rfl 8 (by decide) hf32 (fun _ h9 => h9) rfl dX11_group_110 ?_
                            refine lv_iload hx hb dX11_group_113 (lv_at hl 2 rfl) ?_
                            obtain ⟨hin, h⟩ := h
                            refine va_iald hx hb hK hP 4 0 rfl rfl hin dX11_group_115 ?_
                            refine lv_aload_n hx hb dX11_group_116 rfl (lv_at hl 0 rfl) ?_
                            refine va_get (D := G) (ci := 10) (v := .ref (B_t 8)) (C := RX11) (T := TX11) (N := 29) hx hb hts inX11 hown hK hP 0 rfl rfl 8 (by decide) hf32 (fun _ h9 => h9) rfl dX11_group_117 ?_
                            refine lv_iload hx hb dX11_group_120 (lv_at hl 3 rfl) ?_
                            obtain ⟨hin, h⟩ := h
                            refine va_iald hx hb hK hP 4 0 rfl rfl hin dX11_group_122 ?_
                            refine mc_iV ⟨hx, hb, hml, hown, hts⟩ hK hE hA hP hD hS (c_X11_turnedBy l G Y tF H.size h_t B_t t_thrown t_n t_modulus t_rows t_strands t_letters t_listedMany t_listN t_listWhat t_f t_g t_h (t_members (Int32.toNatClampNeg x4)) (t_members (Int32.toNatClampNeg x5)) h) (cwV 2 hts gX11_group_X11_turnedBy rfl rfl rfl (by decide +kernel) ⟨Nat.le_trans (by decide) hRf, Nat.le_trans (by decide) hRl⟩) (fun u => (w_X11_group Y h_t B_t t_thrown t_n t_modulus t_rows t_strands t_letters t_listedMany t_listN t_listWhat u.1 u.2.1 u.2.2 t_members t_table t_twists)) [0, 1, 2, 3] [4, 5, 6] [3, 4, 5, 6, 0, 1, 2] rfl rfl rfl rfl (by decide) (fun _ => rfl) rfl 0 10 rfl rfl rfl rfl hl.1 rfl (Nat.le_of_ble_eq_true rfl) dX11_group_123 (fun r123 u H locs h hP hD hS => ?_)
                            obtain ⟨t_f_123, t_g_123, t_h_123⟩ := u
                            try dsimp only at h
                            have hP : va_P G vwCl (w_X11_group Y h_t B_t t_thrown t_n t_modulus t_rows t_strands t_letters t_listedMany t_listN t_listWhat t_f_123 t_g_123 t_h_123 t_members t_table t_twists) H := hP
                            have hD : va_D A (w_X11_group Y h_t B_t t_thrown t_n t_modulus t_rows t_strands t_letters t_listedMany t_listN t_listWhat t_f_123 t_g_123 t_h_123 t_members t_table t_twists) := hD
                            refine lv_istore (lv' := [(6, .int r123), (0, .ref h_t), (3, .int x3), (4, .int x4), (5, .int x5)]) hx hb dX11_group_126 hl (by decide) rfl (fun ls hl => ?_)
                            refine lv_iconst (v := 0) hx hb dX11_group_128 (by decide) ?_
                            refine lv_istore (lv' := [(7, .int (0 : Int32)), (6, .int r123), (0, .ref h_t), (3, .int x3), (4, .int x4), (5, .int x5)]) hx hb dX11_group_129 hl (by decide) rfl (fun ls hl => ?_)
                            obtain ⟨I131, m131, hI131, hB131⟩ := h
                            have L131 : ∀ (x5 : Int32) (x6 : Int32) (t_f : Nat → Int32) (t_g : Nat → Int32) (t_h : Nat → Int32) (I131 : Int32 → (Nat → Int32) → Prop) (m131 : Int32 → (Nat → Int32) → Nat), (∀ (x7 : Int32) (t_table : Nat → Int32), I131 x7 t_table → pX11_group_131 R93 R102 K x3 t_thrown t_n t_members t_twists x4 x5 x6 t_f t_g t_h x7 t_table (fun x7' t_table' => I131 x7' t_table' ∧ m131 x7' t_table' < m131 x7 t_table)) → ∀ (n : Nat) (x7 : Int32) (t_table : Nat → Int32) (H : Heap) (locs : List Loc) (ls : Array Slot), I131 x7 t_table → m131 x7 t_table < n → va_P G vwCl (w_X11_group Y h_t B_t t_thrown t_n t_modulus t_rows t_strands t_letters t_listedMany t_listN t_listWhat t_f t_g t_h t_members t_table t_twists) H → va_D A (w_X11_group Y h_t B_t t_thrown t_n t_modulus t_rows t_strands t_letters t_listedMany t_listN t_listWhat t_f t_g t_h t_members t_table t_twists) → va_S A s.heap H locs → lv_has ls 8 [(0, .ref h_t), (3, .int x3), (4, .int x4), (5, .int x5), (6, .int x6), (7, .int x7)] → W p l e R s m args below meth c H locs 0 0 Q (F0 m 131 ls []) := by
                              intro x5 x6 t_f t_g t_h I131 m131 hB131 n
                              induction n with
                              | zero => intro x7 t_table H locs ls _ hm; exact absurd hm (Nat.not_lt_zero _)
                              | succ n ih =>
                                intro x7 t_table H locs ls hI hm hP hD hS hl
                                obtain ⟨R131, h, rec131⟩ : ∃ R131 : Int32 → (Nat → Int32) → Prop, pX11_group_131 R93 R102 K x3 t_thrown t_n t_members t_twists x4 x5 x6 t_f t_g t_h x7 t_table R131 ∧ ∀ (x7 : Int32) (t_table : Nat → Int32) (H : Heap) (locs : List Loc) (ls : Array Slot), R131 x7 t_table → va_P G vwCl (w_X11_group Y h_t B_t t_thrown t_n t_modulus t_rows t_strands t_letters t_listedMany t_listN t_listWhat t_f t_g t_h t_members t_table t_twists) H → va_D A (w_X11_group Y h_t B_t t_thrown t_n t_modulus t_rows t_strands t_letters t_listedMany t_listN t_listWhat t_f t_g t_h t_members t_table t_twists) → va_S A s.heap H locs → lv_has ls 8 [(0, .ref h_t), (3, .int x3), (4, .int x4), (5, .int x5), (6, .int x6), (7, .int x7)] → W p l e R s m args below meth c H locs 0 0 Q (F0 m 131 ls []) := ⟨_, hB131 x7 t_table hI, fun x7 t_table H locs ls hh hP hD hS hl => ih x7 t_table H locs ls hh.1 (Nat.lt_of_lt_of_le hh.2 (Nat.le_of_lt_succ hm)) hP hD hS hl⟩
                                refine lv_iload hx hb dX11_group_131 (lv_at hl 5 rfl) ?_
                                refine lv_iload_n hx hb dX11_group_133 rfl (lv_at hl 1 rfl) ?_
                                obtain ⟨ht, hf⟩ := h
                                refine lv_icmp_ge (tgt := 170) hx hb dX11_group_134 (by decide) (fun c9 => ?_) (fun c9 => ?_)
                                · have h := ht c9
                                  refine lv_iinc (v := (x5 + 1)) (lv' := [(5, .int (x5 + 1)), (0, .ref h_t), (3, .int x3), (4, .int x4), (6, .int x6), (7, .int x7)]) hx hb dX11_group_170 hl (k := 3) rfl rfl (by decide) rfl (fun ls hl => ?_)
                                  refine lv_goto (tgt := 102) hx hb dX11_group_173 (by decide) ?_
                                  exact rec102 (x5 + 1) t_f t_g t_h t_table H locs ls h hP hD hS (lv_sub hl [1, 2, 3, 0] rfl)
                                · have h := hf c9
                                  refine lv_aload_n hx hb dX11_group_137 rfl (lv_at hl 0 rfl) ?_
                                  refine va_get (D := G) (ci := 10) (v := .ref (B_t 8)) (C := RX11) (T := TX11) (N := 29) hx hb hts inX11 hown hK hP 0 rfl rfl 8 (by decide) hf32 (fun _ h9 => h9) rfl dX11_group_138 ?_
                                  refine lv_iload hx hb dX11_group_141 (lv_at hl 5 rfl) ?_
                                  obtain ⟨hin, h⟩ := h
                                  refine va_iald hx hb hK hP 4 0 rfl rfl hin dX11_group_143 ?_
                                  refine lv_iload hx hb dX11_group_144 (lv_at hl 4 rfl) ?_
                                  obtain ⟨ht, hf⟩ := h
                                  refine lv_icmp_ne (tgt := 164) hx hb dX11_group_146 (by decide) (fun c9 => ?_) (fun c9 => ?_)
                                  · have h := ht c9
                                    refine lv_iinc (v := (x7 + 1)) (lv' := [(7, .int (x7 + 1)), (0, .ref h_t), (3, .int x3), (4, .int x4), (5, .int x5), (6, .int x6)]) hx hb dX11_group_164 hl (k := 5) rfl rfl (by decide) rfl (fun ls hl => ?_)
                                    refine lv_goto (tgt := 131) hx hb dX11_group_167 (by decide) ?_
                                    exact rec131 (x7 + 1) t_table H locs ls h hP hD hS (lv_sub hl [1, 2, 3, 4, 5, 0] rfl)
                                  · have h := hf c9
                                    refine lv_aload_n hx hb dX11_group_149 rfl (lv_at hl 0 rfl) ?_
                                    refine va_get (D := G) (ci := 10) (v := .ref (B_t 2)) (C := RX11) (T := TX11) (N := 29) hx hb hts inX11 hown hK hP 0 rfl rfl 2 (by decide) hf13 (fun _ h9 => h9) rfl dX11_group_150 ?_
                                    refine lv_bipush (v := 8) hx hb dX11_group_153 (by decide) ?_
                                    refine lv_iload hx hb dX11_group_155 (lv_at hl 2 rfl) ?_
                                    refine lv_imul hx hb dX11_group_157 ?_
                                    refine lv_iload hx hb dX11_group_158 (lv_at hl 3 rfl) ?_
                                    refine lv_iadd hx hb dX11_group_160 ?_
                                    refine lv_iload hx hb dX11_group_161 (lv_at hl 5 rfl) ?_
                                    obtain ⟨hin, h⟩ := h
                                    refine va_iast hx hb hK hP hD hS 5 0 rfl rfl hin dX11_group_163 (fun H locs hP hD hS => ?_)
                                    have hP : va_P G vwCl (w_X11_group Y h_t B_t t_thrown t_n t_modulus t_rows t_strands t_letters t_listedMany t_listN t_listWhat t_f t_g t_h t_members (upd t_table (Int32.toNatClampNeg (((8 : Int32) * x4) + x5)) x7) t_twists) H := hP
                                    have hD : va_D A (w_X11_group Y h_t B_t t_thrown t_n t_modulus t_rows t_strands t_letters t_listedMany t_listN t_listWhat t_f t_g t_h t_members (upd t_table (Int32.toNatClampNeg (((8 : Int32) * x4) + x5)) x7) t_twists) := hD
                                    refine lv_iinc (v := (x7 + 1)) (lv' := [(7, .int (x7 + 1)), (0, .ref h_t), (3, .int x3), (4, .int x4), (5, .int x5), (6, .int x6)]) hx hb dX11_group_164 hl (k := 5) rfl rfl (by decide) rfl (fun ls hl => ?_)
                                    refine lv_goto (tgt := 131) hx hb dX11_group_167 (by decide) ?_
                                    exact rec131 (x7 + 1) (upd t_table (Int32.toNatClampNeg (((8 : Int32) * x4) + x5)) x7) H locs ls h hP hD hS (lv_sub hl [1, 2, 3, 4, 5, 0] rfl)
                            exact L131 x5 r123 t_f_123 t_g_123 t_h_123 I131 m131 hB131 _ (0 : Int32) t_table H locs ls hI131 (Nat.lt_succ_self _) hP hD hS (lv_sub hl [2, 3, 4, 5, 1, 0] rfl)
                      exact L102 x4 I102 m102 hB102 _ (0 : Int32) t_f t_g t_h t_table H locs ls hI102 (Nat.lt_succ_self _) hP hD hS (lv_sub hl [1, 2, 3, 0] rfl)
                exact L93 x3 t_thrown t_n_87 t_members t_twists_87 I93 m93 hB93 _ (0 : Int32) t_f t_g t_h t_table H locs ls hI93 (Nat.lt_succ_self _) hP hD hS (lv_sub hl [1, 3, 0] rfl)
              · have h := hf c9
                refine lv_iload_n hx hb dX11_group_58 rfl (lv_at hl 1 rfl) ?_
                refine lv_iload hx hb dX11_group_59 (lv_at hl 3 rfl) ?_
                refine lv_ishr hx hb dX11_group_61 ?_
                refine lv_iconst (v := 1) hx hb dX11_group_62 (by decide) ?_
                refine lv_iand hx hb dX11_group_63 ?_
                refine lv_iconst (v := 1) hx hb dX11_group_64 (by decide) ?_
                obtain ⟨ht, hf⟩ := h
                refine lv_icmp_ne (tgt := 79) hx hb dX11_group_65 (by decide) (fun c9 => ?_) (fun c9 => ?_)
                · have h := ht c9
                  refine lv_iinc (v := (x4 + 1)) (lv' := [(4, .int (x4 + 1)), (0, .ref h_t), (2, .int x2), (3, .int x3)]) hx hb dX11_group_79 hl (k := 3) rfl rfl (by decide) rfl (fun ls hl => ?_)
                  refine lv_goto (tgt := 51) hx hb dX11_group_82 (by decide) ?_
                  exact rec51 x3 (x4 + 1) t_members H locs ls h hP hD hS (lv_sub hl [1, 2, 3, 0] rfl)
                · have h := hf c9
                  refine lv_aload_n hx hb dX11_group_68 rfl (lv_at hl 0 rfl) ?_
                  refine va_get (D := G) (ci := 10) (v := .ref (B_t 8)) (C := RX11) (T := TX11) (N := 29) hx hb hts inX11 hown hK hP 0 rfl rfl 8 (by decide) hf32 (fun _ h9 => h9) rfl dX11_group_69 ?_
                  refine lv_iload_n hx hb dX11_group_72 rfl (lv_at hl 2 rfl) ?_
                  refine lv_iload hx hb dX11_group_73 (lv_at hl 3 rfl) ?_
                  obtain ⟨hin, h⟩ := h
                  refine va_iast hx hb hK hP hD hS 4 0 rfl rfl hin dX11_group_75 (fun H locs hP hD hS => ?_)
                  have hP : va_P G vwCl (w_X11_group Y h_t B_t t_thrown t_n t_modulus t_rows t_strands t_letters t_listedMany t_listN t_listWhat t_f t_g t_h (upd t_members (Int32.toNatClampNeg x3) x4) t_table t_twists) H := hP
                  have hD : va_D A (w_X11_group Y h_t B_t t_thrown t_n t_modulus t_rows t_strands t_letters t_listedMany t_listN t_listWhat t_f t_g t_h (upd t_members (Int32.toNatClampNeg x3) x4) t_table t_twists) := hD
                  refine lv_iinc (v := (x3 + 1)) (lv' := [(3, .int (x3 + 1)), (0, .ref h_t), (2, .int x2), (4, .int x4)]) hx hb dX11_group_76 hl (k := 2) rfl rfl (by decide) rfl (fun ls hl => ?_)
                  refine lv_iinc (v := (x4 + 1)) (lv' := [(4, .int (x4 + 1)), (3, .int (x3 + 1)), (0, .ref h_t), (2, .int x2)]) hx hb dX11_group_79 hl (k := 3) rfl rfl (by decide) rfl (fun ls hl => ?_)
                  refine lv_goto (tgt := 51) hx hb dX11_group_82 (by decide) ?_
                  exact rec51 (x3 + 1) (x4 + 1) (upd t_members (Int32.toNatClampNeg x3) x4) H locs ls h hP hD hS (lv_sub hl [2, 3, 1, 0] rfl)
          exact L51 x2 t_thrown t_n t_f t_g t_h t_table t_twists I51 m51 hB51 _ (0 : Int32) (0 : Int32) t_members H locs ls hI51 (Nat.lt_succ_self _) hP hD hS (lv_sub hl [2, 4, 1, 0] rfl)
        · have h := hf c9
          refine lv_iload_n hx hb dX11_group_29 rfl (lv_at hl 2 rfl) ?_
          refine lv_iconst (v := 1) hx hb dX11_group_30 (by decide) ?_
          refine lv_aload_n hx hb dX11_group_31 rfl (lv_at hl 0 rfl) ?_
          refine lv_iload_n hx hb dX11_group_32 rfl (lv_at hl 3 rfl) ?_
          refine lv_iload_n hx hb dX11_group_33 rfl (lv_at hl 1 rfl) ?_
          refine mc_iV ⟨hx, hb, hml, hown, hts⟩ hK hE hA hP hD hS (c_X11_turnedBy l G Y tF H.size h_t B_t t_thrown t_n t_modulus t_rows t_strands t_letters t_listedMany t_listN t_listWhat t_f t_g t_h x3 x1 h) (cwV 2 hts gX11_group_X11_turnedBy rfl rfl rfl (by decide +kernel) ⟨Nat.le_trans (by decide) hRf, Nat.le_trans (by decide) hRl⟩) (fun u => (w_X11_group Y h_t B_t t_thrown t_n t_modulus t_rows t_strands t_letters t_listedMany t_listN t_listWhat u.1 u.2.1 u.2.2 t_members t_table t_twists)) [0, 1, 2, 3] [4, 5, 6] [3, 4, 5, 6, 0, 1, 2] rfl rfl rfl rfl (by decide) (fun _ => rfl) rfl 0 10 rfl rfl rfl rfl hl.1 rfl (Nat.le_of_ble_eq_true rfl) dX11_group_34 (fun r34 u H locs h hP hD hS => ?_)
          obtain ⟨t_f_34, t_g_34, t_h_34⟩ := u
          try dsimp only at h
          have hP : va_P G vwCl (w_X11_group Y h_t B_t t_thrown t_n t_modulus t_rows t_strands t_letters t_listedMany t_listN t_listWhat t_f_34 t_g_34 t_h_34 t_members t_table t_twists) H := hP
          have hD : va_D A (w_X11_group Y h_t B_t t_thrown t_n t_modulus t_rows t_strands t_letters t_listedMany t_listN t_listWhat t_f_34 t_g_34 t_h_34 t_members t_table t_twists) := hD
          refine lv_ishl hx hb dX11_group_37 ?_
          refine lv_ior hx hb dX11_group_38 ?_
          refine lv_istore_n (lv' := [(2, .int (x2 ||| ((1 : Int32) <<< (r34 &&& 31)))), (0, .ref h_t), (1, .int x1), (3, .int x3)]) hx hb dX11_group_39 rfl hl (by decide) rfl (fun ls hl => ?_)
          refine lv_iinc (v := (x3 + 1)) (lv' := [(3, .int (x3 + 1)), (2, .int (x2 ||| ((1 : Int32) <<< (r34 &&& 31)))), (0, .ref h_t), (1, .int x1)]) hx hb dX11_group_40 hl (k := 3) rfl rfl (by decide) rfl (fun ls hl => ?_)
          refine lv_goto (tgt := 23) hx hb dX11_group_43 (by decide) ?_
          exact rec23 (x2 ||| ((1 : Int32) <<< (r34 &&& 31))) (x3 + 1) t_f_34 t_g_34 t_h_34 H locs ls h hP hD hS (lv_sub hl [2, 3, 1, 0] rfl)
    exact L23 x1 (0 : Int32) t_n t_members t_table t_twists I23 m23 hB23 _ (0 : Int32) (0 : Int32) t_f t_g t_h H locs ls hI23 (Nat.lt_succ_self _) hP hD hS (lv_sub hl [2, 3, 1, 0] rfl)
  · have h := hf c9
    refine lv_iconst (v := -1) hx hb dX11_group_17 (by decide) ?_
    exact hret (-1 : Int32) (0 : Int32) t_n t_f t_g t_h t_members t_table t_twists H locs ls _ hP hD hS h dX11_group_18

set_option maxHeartbeats 4000000 in
set_option maxRecDepth 100000 in
theorem c_X11_group (l : Launch) (G : va_G) (Y : Nat → ClassId) (tF sz : Nat) (h_t : Nat) (B_t : Nat → Nat) (t_thrown : Int32) (t_n : Int32) (t_modulus : Int32) (t_rows : Int32) (t_strands : Int32) (t_letters : Int32) (t_listedMany : Int32) (t_listN : Int32) (t_listWhat : Int32) (t_f : Nat → Int32) (t_g : Nat → Int32) (t_h : Nat → Int32) (t_members : Nat → Int32) (t_table : Nat → Int32) (t_twists : Nat → Int32) (x1 : Int32) {K : Int32 → Int32 → Int32 → (Nat → Int32) → (Nat → Int32) → (Nat → Int32) → (Nat → Int32) → (Nat → Int32) → (Nat → Int32) → Prop} (h : pX11_group t_thrown t_n t_f t_g t_h t_members t_table t_twists x1 K) : Met l yX11_group wsX11_group ({ frames := 13, cells := 0, slots := 0, locals := 271 }) (PcM G Y tF sz (w_X11_group Y h_t B_t t_thrown t_n t_modulus t_rows t_strands t_letters t_listedMany t_listN t_listWhat t_f t_g t_h t_members t_table t_twists) [.ref h_t, .int x1]) (va_Qi (fun (r : Int32) (u : Int32 × Int32 × (Nat → Int32) × (Nat → Int32) × (Nat → Int32) × (Nat → Int32) × (Nat → Int32) × (Nat → Int32)) => K r u.1 u.2.1 u.2.2.1 u.2.2.2.1 u.2.2.2.2.1 u.2.2.2.2.2.1 u.2.2.2.2.2.2.1 u.2.2.2.2.2.2.2) (fun u t => BM G Y (va_A (w_X11_group Y h_t B_t t_thrown t_n t_modulus t_rows t_strands t_letters t_listedMany t_listN t_listWhat t_f t_g t_h t_members t_table t_twists) sz) (w_X11_group Y h_t B_t u.1 u.2.1 t_modulus t_rows t_strands t_letters t_listedMany t_listN t_listWhat u.2.2.1 u.2.2.2.1 u.2.2.2.2.1 u.2.2.2.2.2.1 u.2.2.2.2.2.2.1 u.2.2.2.2.2.2.2) t) (va_A (w_X11_group Y h_t B_t t_thrown t_n t_modulus t_rows t_strands t_letters t_listedMany t_listN t_listWhat t_f t_g t_h t_members t_table t_twists) sz)) 0 0 (va_A (w_X11_group Y h_t B_t t_thrown t_n t_modulus t_rows t_strands t_letters t_listedMany t_listN t_listWhat t_f t_g t_h t_members t_table t_twists) sz) := by
  refine Met.ofW (cc := cX11_group) (maxL := 8) (ret := (some .int)) (by decide +kernel) rfl ?_
  intro p e s m args below meth c s₁ B hml hv
  obtain ⟨rfl, hsz, hP, hK, hD0, hE⟩ := hv
  have hts := atoms_spec (ws := wsX11_group) B.pre
  have hown : s.vm.findClass RX11 = some m.cls := findClass_of_methodNamed B.named
  have hlocks := B.notSynchronized
  subst hsz
  have hD := hD0.self (sz := s.heap.size)
  exact wk_X11_group h_t B_t t_thrown t_n t_modulus t_rows t_strands t_letters t_listedMany t_listN t_listWhat t_f t_g t_h t_members t_table t_twists x1 B.exec B.bytes hml hown hts hK hE (fun q h => Or.inr h) (Nat.le_refl _) (Nat.le_refl _) (fun r t_thrown t_n t_f t_g t_h t_members t_table t_twists H locs ls pc hP hD hS hk hd => W.iret (v := r) B.exec B.bytes B.returns (fun t ht hW => ⟨⟨r, (t_thrown, t_n, t_f, t_g, t_h, t_members, t_table, t_twists), rfl, hk, by rw [ht]; exact hP, va_K.moved hW.alike hK, hD⟩, hS.F ht⟩) hS.2.2 hd) hP hD h

abbrev w_X11_isKept (Y : Nat → ClassId) (h_t : Nat) (B_t : Nat → Nat) (t_thrown : Int32) (t_n : Int32) (t_modulus : Int32) (t_rows : Int32) (t_strands : Int32) (t_letters : Int32) (t_listedMany : Int32) (t_listN : Int32) (t_listWhat : Int32) (t_keptMany : Nat → Int32) : va_W := [(h_t, .inr (10, [.int t_thrown, .int t_n, .ref (B_t 2), .int t_modulus, .ref (B_t 4), .ref (B_t 5), .ref (B_t 6), .ref (B_t 7), .ref (B_t 8), .ref (B_t 9), .ref (B_t 10), .int t_rows, .ref (B_t 12), .ref (B_t 13), .ref (B_t 14), .ref (B_t 15), .ref (B_t 16), .ref (B_t 17), .ref (B_t 18), .ref (B_t 19), .int t_strands, .int t_letters, .ref (B_t 22), .ref (B_t 23), .ref (B_t 24), .ref (B_t 25), .int t_listedMany, .int t_listN, .int t_listWhat])), ((B_t 9), .inl (Y 0, 4, .inl t_keptMany))]

set_option maxHeartbeats 4000000 in
set_option maxRecDepth 100000 in
theorem wk_X11_isKept {p : Program} {l : Launch} {e : Env} {R : Room} {s : State} {m : MethodId} {args : Array Value} {below : List Frame} {meth : Method} {c : Code} {Q : State → Prop} {G : va_G} {Y : Nat → ClassId} {tF : Nat} {A : Nat → Prop} (h_t : Nat) (B_t : Nat → Nat) (t_thrown : Int32) (t_n : Int32) (t_modulus : Int32) (t_rows : Int32) (t_strands : Int32) (t_letters : Int32) (t_listedMany : Int32) (t_listN : Int32) (t_listWhat : Int32) (t_keptMany : Nat → Int32) (x1 : Int32) {K : Int32 → Prop} (hx : p.tables.exec = Jvm.exec) (hb : c.code = cX11_isKept) (hml : c.maxLocals = 2) (hown : s.vm.findClass RX11 = some m.cls) (hts : ∀ w ∈ wsX11_isKept, w.before args s = true) (hK : va_K G vwCl (tyL Y) s) (hE : Ev A tF s) (hA : ∀ q, s.heap.size ≤ q → A q) (hRf : 1 ≤ R.frames) (hRl : 25 ≤ R.locals) (hret : ∀ (r : Int32)  (H : Heap) (locs : List Loc) (ls : Array Slot) (pc : Nat), va_P G vwCl (w_X11_isKept Y h_t B_t t_thrown t_n t_modulus t_rows t_strands t_letters t_listedMany t_listN t_listWhat t_keptMany) H → va_D A (w_X11_isKept Y h_t B_t t_thrown t_n t_modulus t_rows t_strands t_letters t_listedMany t_listN t_listWhat t_keptMany) → va_S A s.heap H locs → zb r → K r → decode cX11_isKept pc = .ok (.ireturn, 1) → W p l e R s m args below meth c H locs 0 0 Q (F0 m pc ls [.int r])) (hP : va_P G vwCl (w_X11_isKept Y h_t B_t t_thrown t_n t_modulus t_rows t_strands t_letters t_listedMany t_listN t_listWhat t_keptMany) s.heap) (hD : va_D A (w_X11_isKept Y h_t B_t t_thrown t_n t_modulus t_rows t_strands t_letters t_listedMany t_listN t_listWhat t_keptMany)) (h : pX11_isKept t_keptMany x1 K) : W p l e R s m args below meth c s.heap [] 0 0 Q (entryFrame m ([.ref h_t, .int x1] : List Value).toArray 2) := by
  have inX11 : ∀ w ∈ u_ws RX11 TX11 29, w ∈ wsX11_isKept := by decide +kernel
  have hf35 := hts (.fieldLink RX11 35 "RackBenchModel" "keptMany" "[I") (by decide +kernel)
  have hcL136 := hts (.constantLong RX11 136 (3)) (by decide +kernel)
  have hl := lv_entry ([.ref h_t, .int x1]) (n := 2) (Nat.le_of_ble_eq_true rfl)
  rw [lg_entry_eq]
  generalize (lg_sl ([.ref h_t, .int x1]) ++ List.replicate (2 - (lg_sl ([.ref h_t, .int x1])).length) Slot.unset).toArray = ls at hl ⊢
  have hl : lv_has ls 2 [(0, .ref h_t), (1, .int x1)] := hl
  generalize hH0 : s.heap = H at hP ⊢
  have hS : va_S A s.heap H [] := by rw [← hH0]; exact va_S.rf
  clear hH0
  generalize ([] : List Loc) = locs at hS ⊢
  have J25 : ∀  (H : Heap) (locs : List Loc) (ls : Array Slot), pX11_isKept_25 t_keptMany K → va_P G vwCl (w_X11_isKept Y h_t B_t t_thrown t_n t_modulus t_rows t_strands t_letters t_listedMany t_listN t_listWhat t_keptMany) H → va_D A (w_X11_isKept Y h_t B_t t_thrown t_n t_modulus t_rows t_strands t_letters t_listedMany t_listN t_listWhat t_keptMany) → va_S A s.heap H locs → lv_has ls 2 [] → W p l e R s m args below meth c H locs 0 0 Q (F0 m 25 ls []) := by
    intro  H locs ls h hP hD hS hl
    refine lv_iconst (v := 0) hx hb dX11_isKept_25 (by decide) ?_
    obtain ⟨hz, h⟩ := h
    exact hret (0 : Int32)  H locs ls _ hP hD hS hz h dX11_isKept_26
  refine lv_iload_n hx hb dX11_isKept_0 rfl (lv_at hl 1 rfl) ?_
  refine lv_i2l hx hb dX11_isKept_1 rfl ?_
  refine lv_lconst (v := 0) hx hb dX11_isKept_2 (by decide) ?_
  refine lv_ldc2 (v := 3) hx hb hown hcL136 dX11_isKept_3 ?_
  refine mc_iS ⟨hx, hb, hml, hown, hts⟩ hK hE hA hP hD hS (c_X11_in l G Y tF H.size (Int32.toInt64 x1) (0 : Int64) (3 : Int64) h) (va_cwS 3 hts gX11_isKept_X11_in rfl rfl rfl (by decide +kernel) ⟨Nat.le_trans (by decide) hRf, Nat.le_trans (by decide) hRl⟩) (fun u => (w_X11_isKept Y h_t B_t t_thrown t_n t_modulus t_rows t_strands t_letters t_listedMany t_listN t_listWhat t_keptMany)) [] [0, 1] [0, 1] rfl rfl rfl rfl (by decide) (fun _ => rfl) rfl rfl hl.1 rfl (Nat.le_of_ble_eq_true rfl) dX11_isKept_6 (fun r6 u H locs h hP hD hS => ?_)
  try dsimp only at h
  have hP : va_P G vwCl (w_X11_isKept Y h_t B_t t_thrown t_n t_modulus t_rows t_strands t_letters t_listedMany t_listN t_listWhat t_keptMany) H := hP
  have hD : va_D A (w_X11_isKept Y h_t B_t t_thrown t_n t_modulus t_rows t_strands t_letters t_listedMany t_listN t_listWhat t_keptMany) := hD
  obtain ⟨ht, hf⟩ := h
  refine lv_if_eq (tgt := 25) hx hb dX11_isKept_9 (by decide) (fun c9 => ?_) (fun c9 => ?_)
  · have h := ht c9
    exact J25  H locs ls h hP hD hS (lv_sub hl [] rfl)
  · have h := hf c9
    refine lv_aload_n hx hb dX11_isKept_12 rfl (lv_at hl 0 rfl) ?_
    refine va_get (D := G) (ci := 10) (v := .ref (B_t 9)) (C := RX11) (T := TX11) (N := 29) hx hb hts inX11 hown hK hP 0 rfl rfl 9 (by decide) hf35 (fun _ h9 => h9) rfl dX11_isKept_13 ?_
    refine lv_iload_n hx hb dX11_isKept_16 rfl (lv_at hl 1 rfl) ?_
    obtain ⟨hin, h⟩ := h
    refine va_iald hx hb hK hP 1 0 rfl rfl hin dX11_isKept_17 ?_
    obtain ⟨ht, hf⟩ := h
    refine lv_if_le (tgt := 25) hx hb dX11_isKept_18 (by decide) (fun c9 => ?_) (fun c9 => ?_)
    · have h := ht c9
      exact J25  H locs ls h hP hD hS (lv_sub hl [] rfl)
    · have h := hf c9
      refine lv_iconst (v := 1) hx hb dX11_isKept_21 (by decide) ?_
      refine lv_goto (tgt := 26) hx hb dX11_isKept_22 (by decide) ?_
      obtain ⟨hz, h⟩ := h
      exact hret (1 : Int32)  H locs ls _ hP hD hS hz h dX11_isKept_26

set_option maxHeartbeats 4000000 in
set_option maxRecDepth 100000 in
theorem c_X11_isKept (l : Launch) (G : va_G) (Y : Nat → ClassId) (tF sz : Nat) (h_t : Nat) (B_t : Nat → Nat) (t_thrown : Int32) (t_n : Int32) (t_modulus : Int32) (t_rows : Int32) (t_strands : Int32) (t_letters : Int32) (t_listedMany : Int32) (t_listN : Int32) (t_listWhat : Int32) (t_keptMany : Nat → Int32) (x1 : Int32) {K : Int32 → Prop} (h : pX11_isKept t_keptMany x1 K) : Met l yX11_isKept wsX11_isKept ({ frames := 1, cells := 0, slots := 0, locals := 25 }) (PcM G Y tF sz (w_X11_isKept Y h_t B_t t_thrown t_n t_modulus t_rows t_strands t_letters t_listedMany t_listN t_listWhat t_keptMany) [.ref h_t, .int x1]) (va_Qi (fun (r : Int32) (u : Unit) => K r ) (fun u t => BM G Y (va_A (w_X11_isKept Y h_t B_t t_thrown t_n t_modulus t_rows t_strands t_letters t_listedMany t_listN t_listWhat t_keptMany) sz) (w_X11_isKept Y h_t B_t t_thrown t_n t_modulus t_rows t_strands t_letters t_listedMany t_listN t_listWhat t_keptMany) t) (va_A (w_X11_isKept Y h_t B_t t_thrown t_n t_modulus t_rows t_strands t_letters t_listedMany t_listN t_listWhat t_keptMany) sz)) 0 0 (va_A (w_X11_isKept Y h_t B_t t_thrown t_n t_modulus t_rows t_strands t_letters t_listedMany t_listN t_listWhat t_keptMany) sz) := by
  refine Met.ofW (cc := cX11_isKept) (maxL := 2) (ret := (some .boolean)) (by decide +kernel) rfl ?_
  intro p e s m args below meth c s₁ B hml hv
  obtain ⟨rfl, hsz, hP, hK, hD0, hE⟩ := hv
  have hts := atoms_spec (ws := wsX11_isKept) B.pre
  have hown : s.vm.findClass RX11 = some m.cls := findClass_of_methodNamed B.named
  have hlocks := B.notSynchronized
  subst hsz
  have hD := hD0.self (sz := s.heap.size)
  exact wk_X11_isKept h_t B_t t_thrown t_n t_modulus t_rows t_strands t_letters t_listedMany t_listN t_listWhat t_keptMany x1 B.exec B.bytes hml hown hts hK hE (fun q h => Or.inr h) (Nat.le_refl _) (Nat.le_refl _) (fun r  H locs ls pc hP hD hS hz hk hd => W.zret (v := r) B.exec B.bytes B.returns hz.n (fun t ht hW => ⟨⟨r, (), rfl, hk, by rw [ht]; exact hP, va_K.moved hW.alike hK, hD⟩, hS.F ht⟩) hS.2.2 hd) hP hD h

abbrev w_X11_keep (Y : Nat → ClassId) (h_t : Nat) (B_t : Nat → Nat) (t_thrown : Int32) (t_n : Int32) (t_modulus : Int32) (t_rows : Int32) (t_strands : Int32) (t_letters : Int32) (t_listedMany : Int32) (t_listN : Int32) (t_listWhat : Int32) (t_kept : Nat → Int32) (t_keptMany : Nat → Int32) (t_table : Nat → Int32) : va_W := [(h_t, .inr (10, [.int t_thrown, .int t_n, .ref (B_t 2), .int t_modulus, .ref (B_t 4), .ref (B_t 5), .ref (B_t 6), .ref (B_t 7), .ref (B_t 8), .ref (B_t 9), .ref (B_t 10), .int t_rows, .ref (B_t 12), .ref (B_t 13), .ref (B_t 14), .ref (B_t 15), .ref (B_t 16), .ref (B_t 17), .ref (B_t 18), .ref (B_t 19), .int t_strands, .int t_letters, .ref (B_t 22), .ref (B_t 23), .ref (B_t 24), .ref (B_t 25), .int t_listedMany, .int t_listN, .int t_listWhat])), ((B_t 10), .inl (Y 0, 256, .inl t_kept)), ((B_t 9), .inl (Y 0, 4, .inl t_keptMany)), ((B_t 2), .inl (Y 0, 64, .inl t_table))]

set_option maxHeartbeats 4000000 in
set_option maxRecDepth 100000 in
theorem wk_X11_keep {p : Program} {l : Launch} {e : Env} {R : Room} {s : State} {m : MethodId} {args : Array Value} {below : List Frame} {meth : Method} {c : Code} {Q : State → Prop} {G : va_G} {Y : Nat → ClassId} {tF : Nat} {A : Nat → Prop} (h_t : Nat) (B_t : Nat → Nat) (t_thrown : Int32) (t_n : Int32) (t_modulus : Int32) (t_rows : Int32) (t_strands : Int32) (t_letters : Int32) (t_listedMany : Int32) (t_listN : Int32) (t_listWhat : Int32) (t_kept : Nat → Int32) (t_keptMany : Nat → Int32) (t_table : Nat → Int32) (x1 : Int32) {K : Int32 → Int32 → (Nat → Int32) → (Nat → Int32) → Prop} (hx : p.tables.exec = Jvm.exec) (hb : c.code = cX11_keep) (hml : c.maxLocals = 3) (hown : s.vm.findClass RX11 = some m.cls) (hts : ∀ w ∈ wsX11_keep, w.before args s = true) (hK : va_K G vwCl (tyL Y) s) (hE : Ev A tF s) (hA : ∀ q, s.heap.size ≤ q → A q) (hRf : 1 ≤ R.frames) (hRl : 25 ≤ R.locals) (hret : ∀ (r : Int32) (t_thrown : Int32) (t_kept : Nat → Int32) (t_keptMany : Nat → Int32) (H : Heap) (locs : List Loc) (ls : Array Slot) (pc : Nat), va_P G vwCl (w_X11_keep Y h_t B_t t_thrown t_n t_modulus t_rows t_strands t_letters t_listedMany t_listN t_listWhat t_kept t_keptMany t_table) H → va_D A (w_X11_keep Y h_t B_t t_thrown t_n t_modulus t_rows t_strands t_letters t_listedMany t_listN t_listWhat t_kept t_keptMany t_table) → va_S A s.heap H locs → zb r → K r t_thrown t_kept t_keptMany → decode cX11_keep pc = .ok (.ireturn, 1) → W p l e R s m args below meth c H locs 0 0 Q (F0 m pc ls [.int r])) (hP : va_P G vwCl (w_X11_keep Y h_t B_t t_thrown t_n t_modulus t_rows t_strands t_letters t_listedMany t_listN t_listWhat t_kept t_keptMany t_table) s.heap) (hD : va_D A (w_X11_keep Y h_t B_t t_thrown t_n t_modulus t_rows t_strands t_letters t_listedMany t_listN t_listWhat t_kept t_keptMany t_table)) (h : pX11_keep t_thrown t_n t_kept t_keptMany t_table x1 K) : W p l e R s m args below meth c s.heap [] 0 0 Q (entryFrame m ([.ref h_t, .int x1] : List Value).toArray 3) := by
  have inX11 : ∀ w ∈ u_ws RX11 TX11 29, w ∈ wsX11_keep := by decide +kernel
  have hf13 := hts (.fieldLink RX11 13 "RackBenchModel" "table" "[I") (by decide +kernel)
  have hf35 := hts (.fieldLink RX11 35 "RackBenchModel" "keptMany" "[I") (by decide +kernel)
  have hf38 := hts (.fieldLink RX11 38 "RackBenchModel" "kept" "[I") (by decide +kernel)
  have hf83 := hts (.fieldLink RX11 83 "RackBenchModel" "thrown" "I") (by decide +kernel)
  have hf9 := hts (.fieldLink RX11 9 "RackBenchModel" "n" "I") (by decide +kernel)
  have hcL136 := hts (.constantLong RX11 136 (3)) (by decide +kernel)
  have hl := lv_entry ([.ref h_t, .int x1]) (n := 3) (Nat.le_of_ble_eq_true rfl)
  rw [lg_entry_eq]
  generalize (lg_sl ([.ref h_t, .int x1]) ++ List.replicate (3 - (lg_sl ([.ref h_t, .int x1])).length) Slot.unset).toArray = ls at hl ⊢
  have hl : lv_has ls 3 [(0, .ref h_t), (1, .int x1)] := hl
  generalize hH0 : s.heap = H at hP ⊢
  have hS : va_S A s.heap H [] := by rw [← hH0]; exact va_S.rf
  clear hH0
  generalize ([] : List Loc) = locs at hS ⊢
  refine lv_aload_n hx hb dX11_keep_0 rfl (lv_at hl 0 rfl) ?_
  refine lv_iconst (v := 0) hx hb dX11_keep_1 (by decide) ?_
  refine va_put (D := G) (ci := 10) (v := .int (0 : Int32)) (ty := .int) (C := RX11) (T := TX11) (N := 29) hx hb hts inX11 tyX11 tyX11_ok nmX11 hown hK hP hD hS 0 rfl rfl 0 (by decide) hf83 (fun _ h9 => h9) rfl (by decide +kernel) rfl rfl (Nat.le_of_ble_eq_true rfl) dX11_keep_2 (fun H locs hP hD hS => ?_)
  have hP : va_P G vwCl (w_X11_keep Y h_t B_t (0 : Int32) t_n t_modulus t_rows t_strands t_letters t_listedMany t_listN t_listWhat t_kept t_keptMany t_table) H := hP
  have hD : va_D A (w_X11_keep Y h_t B_t (0 : Int32) t_n t_modulus t_rows t_strands t_letters t_listedMany t_listN t_listWhat t_kept t_keptMany t_table) := hD
  refine lv_iload_n hx hb dX11_keep_5 rfl (lv_at hl 1 rfl) ?_
  refine lv_i2l hx hb dX11_keep_6 rfl ?_
  refine lv_lconst (v := 0) hx hb dX11_keep_7 (by decide) ?_
  refine lv_ldc2 (v := 3) hx hb hown hcL136 dX11_keep_8 ?_
  refine mc_iS ⟨hx, hb, hml, hown, hts⟩ hK hE hA hP hD hS (c_X11_in l G Y tF H.size (Int32.toInt64 x1) (0 : Int64) (3 : Int64) h) (va_cwS 3 hts gX11_keep_X11_in rfl rfl rfl (by decide +kernel) ⟨Nat.le_trans (by decide) hRf, Nat.le_trans (by decide) hRl⟩) (fun u => (w_X11_keep Y h_t B_t (0 : Int32) t_n t_modulus t_rows t_strands t_letters t_listedMany t_listN t_listWhat t_kept t_keptMany t_table)) [] [0, 1, 2, 3] [0, 1, 2, 3] rfl rfl rfl rfl (by decide) (fun _ => rfl) rfl rfl hl.1 rfl (Nat.le_of_ble_eq_true rfl) dX11_keep_11 (fun r11 u H locs h hP hD hS => ?_)
  try dsimp only at h
  have hP : va_P G vwCl (w_X11_keep Y h_t B_t (0 : Int32) t_n t_modulus t_rows t_strands t_letters t_listedMany t_listN t_listWhat t_kept t_keptMany t_table) H := hP
  have hD : va_D A (w_X11_keep Y h_t B_t (0 : Int32) t_n t_modulus t_rows t_strands t_letters t_listedMany t_listN t_listWhat t_kept t_keptMany t_table) := hD
  obtain ⟨ht, hf⟩ := h
  refine lv_if_ne (tgt := 19) hx hb dX11_keep_14 (by decide) (fun c9 => ?_) (fun c9 => ?_)
  · have h := ht c9
    refine lv_aload_n hx hb dX11_keep_19 rfl (lv_at hl 0 rfl) ?_
    refine va_get (D := G) (ci := 10) (v := .ref (B_t 9)) (C := RX11) (T := TX11) (N := 29) hx hb hts inX11 hown hK hP 0 rfl rfl 9 (by decide) hf35 (fun _ h9 => h9) rfl dX11_keep_20 ?_
    refine lv_iload_n hx hb dX11_keep_23 rfl (lv_at hl 1 rfl) ?_
    refine lv_aload_n hx hb dX11_keep_24 rfl (lv_at hl 0 rfl) ?_
    refine va_get (D := G) (ci := 10) (v := .int t_n) (C := RX11) (T := TX11) (N := 29) hx hb hts inX11 hown hK hP 0 rfl rfl 1 (by decide) hf9 (fun _ h9 => h9) rfl dX11_keep_25 ?_
    obtain ⟨hin, h⟩ := h
    refine va_iast hx hb hK hP hD hS 2 0 rfl rfl hin dX11_keep_28 (fun H locs hP hD hS => ?_)
    have hP : va_P G vwCl (w_X11_keep Y h_t B_t (0 : Int32) t_n t_modulus t_rows t_strands t_letters t_listedMany t_listN t_listWhat t_kept (upd t_keptMany (Int32.toNatClampNeg x1) t_n) t_table) H := hP
    have hD : va_D A (w_X11_keep Y h_t B_t (0 : Int32) t_n t_modulus t_rows t_strands t_letters t_listedMany t_listN t_listWhat t_kept (upd t_keptMany (Int32.toNatClampNeg x1) t_n) t_table) := hD
    refine lv_iconst (v := 0) hx hb dX11_keep_29 (by decide) ?_
    refine lv_istore_n (lv' := [(2, .int (0 : Int32)), (0, .ref h_t), (1, .int x1)]) hx hb dX11_keep_30 rfl hl (by decide) rfl (fun ls hl => ?_)
    obtain ⟨I31, m31, hI31, hB31⟩ := h
    have L31 : ∀ (x1 : Int32) (t_thrown : Int32) (t_keptMany : Nat → Int32) (I31 : Int32 → (Nat → Int32) → Prop) (m31 : Int32 → (Nat → Int32) → Nat), (∀ (x2 : Int32) (t_kept : Nat → Int32), I31 x2 t_kept → pX11_keep_31 t_n t_table K x1 t_thrown t_keptMany x2 t_kept (fun x2' t_kept' => I31 x2' t_kept' ∧ m31 x2' t_kept' < m31 x2 t_kept)) → ∀ (n : Nat) (x2 : Int32) (t_kept : Nat → Int32) (H : Heap) (locs : List Loc) (ls : Array Slot), I31 x2 t_kept → m31 x2 t_kept < n → va_P G vwCl (w_X11_keep Y h_t B_t t_thrown t_n t_modulus t_rows t_strands t_letters t_listedMany t_listN t_listWhat t_kept t_keptMany t_table) H → va_D A (w_X11_keep Y h_t B_t t_thrown t_n t_modulus t_rows t_strands t_letters t_listedMany t_listN t_listWhat t_kept t_keptMany t_table) → va_S A s.heap H locs → lv_has ls 3 [(0, .ref h_t), (1, .int x1), (2, .int x2)] → W p l e R s m args below meth c H locs 0 0 Q (F0 m 31 ls []) := by
      intro x1 t_thrown t_keptMany I31 m31 hB31 n
      induction n with
      | zero => intro x2 t_kept H locs ls _ hm; exact absurd hm (Nat.not_lt_zero _)
      | succ n ih =>
        intro x2 t_kept H locs ls hI hm hP hD hS hl
        obtain ⟨R31, h, rec31⟩ : ∃ R31 : Int32 → (Nat → Int32) → Prop, pX11_keep_31 t_n t_table K x1 t_thrown t_keptMany x2 t_kept R31 ∧ ∀ (x2 : Int32) (t_kept : Nat → Int32) (H : Heap) (locs : List Loc) (ls : Array Slot), R31 x2 t_kept → va_P G vwCl (w_X11_keep Y h_t B_t t_thrown t_n t_modulus t_rows t_strands t_letters t_listedMany t_listN t_listWhat t_kept t_keptMany t_table) H → va_D A (w_X11_keep Y h_t B_t t_thrown t_n t_modulus t_rows t_strands t_letters t_listedMany t_listN t_listWhat t_kept t_keptMany t_table) → va_S A s.heap H locs → lv_has ls 3 [(0, .ref h_t), (1, .int x1), (2, .int x2)] → W p l e R s m args below meth c H locs 0 0 Q (F0 m 31 ls []) := ⟨_, hB31 x2 t_kept hI, fun x2 t_kept H locs ls hh hP hD hS hl => ih x2 t_kept H locs ls hh.1 (Nat.lt_of_lt_of_le hh.2 (Nat.le_of_lt_succ hm)) hP hD hS hl⟩
        refine lv_iload_n hx hb dX11_keep_31 rfl (lv_at hl 2 rfl) ?_
        refine lv_bipush (v := 64) hx hb dX11_keep_32 (by decide) ?_
        obtain ⟨ht, hf⟩ := h
        refine lv_icmp_ge (tgt := 60) hx hb dX11_keep_34 (by decide) (fun c9 => ?_) (fun c9 => ?_)
        · have h := ht c9
          refine lv_iconst (v := 1) hx hb dX11_keep_60 (by decide) ?_
          obtain ⟨hz, h⟩ := h
          exact hret (1 : Int32) t_thrown t_kept t_keptMany H locs ls _ hP hD hS hz h dX11_keep_61
        · have h := hf c9
          refine lv_aload_n hx hb dX11_keep_37 rfl (lv_at hl 0 rfl) ?_
          refine va_get (D := G) (ci := 10) (v := .ref (B_t 10)) (C := RX11) (T := TX11) (N := 29) hx hb hts inX11 hown hK hP 0 rfl rfl 10 (by decide) hf38 (fun _ h9 => h9) rfl dX11_keep_38 ?_
          refine lv_bipush (v := 64) hx hb dX11_keep_41 (by decide) ?_
          refine lv_iload_n hx hb dX11_keep_43 rfl (lv_at hl 1 rfl) ?_
          refine lv_imul hx hb dX11_keep_44 ?_
          refine lv_iload_n hx hb dX11_keep_45 rfl (lv_at hl 2 rfl) ?_
          refine lv_iadd hx hb dX11_keep_46 ?_
          refine lv_aload_n hx hb dX11_keep_47 rfl (lv_at hl 0 rfl) ?_
          refine va_get (D := G) (ci := 10) (v := .ref (B_t 2)) (C := RX11) (T := TX11) (N := 29) hx hb hts inX11 hown hK hP 0 rfl rfl 2 (by decide) hf13 (fun _ h9 => h9) rfl dX11_keep_48 ?_
          refine lv_iload_n hx hb dX11_keep_51 rfl (lv_at hl 2 rfl) ?_
          obtain ⟨hin, h⟩ := h
          refine va_iald hx hb hK hP 3 0 rfl rfl hin dX11_keep_52 ?_
          obtain ⟨hin, h⟩ := h
          refine va_iast hx hb hK hP hD hS 1 0 rfl rfl hin dX11_keep_53 (fun H locs hP hD hS => ?_)
          have hP : va_P G vwCl (w_X11_keep Y h_t B_t t_thrown t_n t_modulus t_rows t_strands t_letters t_listedMany t_listN t_listWhat (upd t_kept (Int32.toNatClampNeg (((64 : Int32) * x1) + x2)) (t_table (Int32.toNatClampNeg x2))) t_keptMany t_table) H := hP
          have hD : va_D A (w_X11_keep Y h_t B_t t_thrown t_n t_modulus t_rows t_strands t_letters t_listedMany t_listN t_listWhat (upd t_kept (Int32.toNatClampNeg (((64 : Int32) * x1) + x2)) (t_table (Int32.toNatClampNeg x2))) t_keptMany t_table) := hD
          refine lv_iinc (v := (x2 + 1)) (lv' := [(2, .int (x2 + 1)), (0, .ref h_t), (1, .int x1)]) hx hb dX11_keep_54 hl (k := 2) rfl rfl (by decide) rfl (fun ls hl => ?_)
          refine lv_goto (tgt := 31) hx hb dX11_keep_57 (by decide) ?_
          exact rec31 (x2 + 1) (upd t_kept (Int32.toNatClampNeg (((64 : Int32) * x1) + x2)) (t_table (Int32.toNatClampNeg x2))) H locs ls h hP hD hS (lv_sub hl [1, 2, 0] rfl)
    exact L31 x1 (0 : Int32) (upd t_keptMany (Int32.toNatClampNeg x1) t_n) I31 m31 hB31 _ (0 : Int32) t_kept H locs ls hI31 (Nat.lt_succ_self _) hP hD hS (lv_sub hl [1, 2, 0] rfl)
  · have h := hf c9
    refine lv_iconst (v := 0) hx hb dX11_keep_17 (by decide) ?_
    obtain ⟨hz, h⟩ := h
    exact hret (0 : Int32) (0 : Int32) t_kept t_keptMany H locs ls _ hP hD hS hz h dX11_keep_18

set_option maxHeartbeats 4000000 in
set_option maxRecDepth 100000 in
theorem c_X11_keep (l : Launch) (G : va_G) (Y : Nat → ClassId) (tF sz : Nat) (h_t : Nat) (B_t : Nat → Nat) (t_thrown : Int32) (t_n : Int32) (t_modulus : Int32) (t_rows : Int32) (t_strands : Int32) (t_letters : Int32) (t_listedMany : Int32) (t_listN : Int32) (t_listWhat : Int32) (t_kept : Nat → Int32) (t_keptMany : Nat → Int32) (t_table : Nat → Int32) (x1 : Int32) {K : Int32 → Int32 → (Nat → Int32) → (Nat → Int32) → Prop} (h : pX11_keep t_thrown t_n t_kept t_keptMany t_table x1 K) : Met l yX11_keep wsX11_keep ({ frames := 1, cells := 0, slots := 0, locals := 25 }) (PcM G Y tF sz (w_X11_keep Y h_t B_t t_thrown t_n t_modulus t_rows t_strands t_letters t_listedMany t_listN t_listWhat t_kept t_keptMany t_table) [.ref h_t, .int x1]) (va_Qi (fun (r : Int32) (u : Int32 × (Nat → Int32) × (Nat → Int32)) => K r u.1 u.2.1 u.2.2) (fun u t => BM G Y (va_A (w_X11_keep Y h_t B_t t_thrown t_n t_modulus t_rows t_strands t_letters t_listedMany t_listN t_listWhat t_kept t_keptMany t_table) sz) (w_X11_keep Y h_t B_t u.1 t_n t_modulus t_rows t_strands t_letters t_listedMany t_listN t_listWhat u.2.1 u.2.2 t_table) t) (va_A (w_X11_keep Y h_t B_t t_thrown t_n t_modulus t_rows t_strands t_letters t_listedMany t_listN t_listWhat t_kept t_keptMany t_table) sz)) 0 0 (va_A (w_X11_keep Y h_t B_t t_thrown t_n t_modulus t_rows t_strands t_letters t_listedMany t_listN t_listWhat t_kept t_keptMany t_table) sz) := by
  refine Met.ofW (cc := cX11_keep) (maxL := 3) (ret := (some .boolean)) (by decide +kernel) rfl ?_
  intro p e s m args below meth c s₁ B hml hv
  obtain ⟨rfl, hsz, hP, hK, hD0, hE⟩ := hv
  have hts := atoms_spec (ws := wsX11_keep) B.pre
  have hown : s.vm.findClass RX11 = some m.cls := findClass_of_methodNamed B.named
  have hlocks := B.notSynchronized
  subst hsz
  have hD := hD0.self (sz := s.heap.size)
  exact wk_X11_keep h_t B_t t_thrown t_n t_modulus t_rows t_strands t_letters t_listedMany t_listN t_listWhat t_kept t_keptMany t_table x1 B.exec B.bytes hml hown hts hK hE (fun q h => Or.inr h) (Nat.le_refl _) (Nat.le_refl _) (fun r t_thrown t_kept t_keptMany H locs ls pc hP hD hS hz hk hd => W.zret (v := r) B.exec B.bytes B.returns hz.n (fun t ht hW => ⟨⟨r, (t_thrown, t_kept, t_keptMany), rfl, hk, by rw [ht]; exact hP, va_K.moved hW.alike hK, hD⟩, hS.F ht⟩) hS.2.2 hd) hP hD h

abbrev w_X11_fetch (Y : Nat → ClassId) (h_t : Nat) (B_t : Nat → Nat) (t_thrown : Int32) (t_n : Int32) (t_modulus : Int32) (t_rows : Int32) (t_strands : Int32) (t_letters : Int32) (t_listedMany : Int32) (t_listN : Int32) (t_listWhat : Int32) (t_kept : Nat → Int32) (t_keptMany : Nat → Int32) (t_table : Nat → Int32) (t_twists : Nat → Int32) : va_W := [(h_t, .inr (10, [.int t_thrown, .int t_n, .ref (B_t 2), .int t_modulus, .ref (B_t 4), .ref (B_t 5), .ref (B_t 6), .ref (B_t 7), .ref (B_t 8), .ref (B_t 9), .ref (B_t 10), .int t_rows, .ref (B_t 12), .ref (B_t 13), .ref (B_t 14), .ref (B_t 15), .ref (B_t 16), .ref (B_t 17), .ref (B_t 18), .ref (B_t 19), .int t_strands, .int t_letters, .ref (B_t 22), .ref (B_t 23), .ref (B_t 24), .ref (B_t 25), .int t_listedMany, .int t_listN, .int t_listWhat])), ((B_t 10), .inl (Y 0, 256, .inl t_kept)), ((B_t 9), .inl (Y 0, 4, .inl t_keptMany)), ((B_t 2), .inl (Y 0, 64, .inl t_table)), ((B_t 4), .inl (Y 0, 64, .inl t_twists))]

set_option maxHeartbeats 4000000 in
set_option maxRecDepth 100000 in
theorem wk_X11_fetch {p : Program} {l : Launch} {e : Env} {R : Room} {s : State} {m : MethodId} {args : Array Value} {below : List Frame} {meth : Method} {c : Code} {Q : State → Prop} {G : va_G} {Y : Nat → ClassId} {tF : Nat} {A : Nat → Prop} (h_t : Nat) (B_t : Nat → Nat) (t_thrown : Int32) (t_n : Int32) (t_modulus : Int32) (t_rows : Int32) (t_strands : Int32) (t_letters : Int32) (t_listedMany : Int32) (t_listN : Int32) (t_listWhat : Int32) (t_kept : Nat → Int32) (t_keptMany : Nat → Int32) (t_table : Nat → Int32) (t_twists : Nat → Int32) (x1 : Int32) {K : Int32 → Int32 → Int32 → (Nat → Int32) → (Nat → Int32) → Prop} (hx : p.tables.exec = Jvm.exec) (hb : c.code = cX11_fetch) (hml : c.maxLocals = 3) (hown : s.vm.findClass RX11 = some m.cls) (hts : ∀ w ∈ wsX11_fetch, w.before args s = true) (hK : va_K G vwCl (tyL Y) s) (hE : Ev A tF s) (hA : ∀ q, s.heap.size ≤ q → A q) (hRf : 2 ≤ R.frames) (hRl : 46 ≤ R.locals) (hret : ∀ (r : Int32) (t_thrown : Int32) (t_n : Int32) (t_table : Nat → Int32) (t_twists : Nat → Int32) (H : Heap) (locs : List Loc) (ls : Array Slot) (pc : Nat), va_P G vwCl (w_X11_fetch Y h_t B_t t_thrown t_n t_modulus t_rows t_strands t_letters t_listedMany t_listN t_listWhat t_kept t_keptMany t_table t_twists) H → va_D A (w_X11_fetch Y h_t B_t t_thrown t_n t_modulus t_rows t_strands t_letters t_listedMany t_listN t_listWhat t_kept t_keptMany t_table t_twists) → va_S A s.heap H locs → K r t_thrown t_n t_table t_twists → decode cX11_fetch pc = .ok (.ireturn, 1) → W p l e R s m args below meth c H locs 0 0 Q (F0 m pc ls [.int r])) (hP : va_P G vwCl (w_X11_fetch Y h_t B_t t_thrown t_n t_modulus t_rows t_strands t_letters t_listedMany t_listN t_listWhat t_kept t_keptMany t_table t_twists) s.heap) (hD : va_D A (w_X11_fetch Y h_t B_t t_thrown t_n t_modulus t_rows t_strands t_letters t_listedMany t_listN t_listWhat t_kept t_keptMany t_table t_twists)) (h : pX11_fetch t_thrown t_n t_kept t_keptMany t_table t_twists x1 K) : W p l e R s m args below meth c s.heap [] 0 0 Q (entryFrame m ([.ref h_t, .int x1] : List Value).toArray 3) := by
  have inX11 : ∀ w ∈ u_ws RX11 TX11 29, w ∈ wsX11_fetch := by decide +kernel
  have hf13 := hts (.fieldLink RX11 13 "RackBenchModel" "table" "[I") (by decide +kernel)
  have hf35 := hts (.fieldLink RX11 35 "RackBenchModel" "keptMany" "[I") (by decide +kernel)
  have hf38 := hts (.fieldLink RX11 38 "RackBenchModel" "kept" "[I") (by decide +kernel)
  have hf83 := hts (.fieldLink RX11 83 "RackBenchModel" "thrown" "I") (by decide +kernel)
  have hf9 := hts (.fieldLink RX11 9 "RackBenchModel" "n" "I") (by decide +kernel)
  have hl := lv_entry ([.ref h_t, .int x1]) (n := 3) (Nat.le_of_ble_eq_true rfl)
  rw [lg_entry_eq]
  generalize (lg_sl ([.ref h_t, .int x1]) ++ List.replicate (3 - (lg_sl ([.ref h_t, .int x1])).length) Slot.unset).toArray = ls at hl ⊢
  have hl : lv_has ls 3 [(0, .ref h_t), (1, .int x1)] := hl
  generalize hH0 : s.heap = H at hP ⊢
  have hS : va_S A s.heap H [] := by rw [← hH0]; exact va_S.rf
  clear hH0
  generalize ([] : List Loc) = locs at hS ⊢
  refine lv_aload_n hx hb dX11_fetch_0 rfl (lv_at hl 0 rfl) ?_
  refine lv_iconst (v := 0) hx hb dX11_fetch_1 (by decide) ?_
  refine va_put (D := G) (ci := 10) (v := .int (0 : Int32)) (ty := .int) (C := RX11) (T := TX11) (N := 29) hx hb hts inX11 tyX11 tyX11_ok nmX11 hown hK hP hD hS 0 rfl rfl 0 (by decide) hf83 (fun _ h9 => h9) rfl (by decide +kernel) rfl rfl (Nat.le_of_ble_eq_true rfl) dX11_fetch_2 (fun H locs hP hD hS => ?_)
  have hP : va_P G vwCl (w_X11_fetch Y h_t B_t (0 : Int32) t_n t_modulus t_rows t_strands t_letters t_listedMany t_listN t_listWhat t_kept t_keptMany t_table t_twists) H := hP
  have hD : va_D A (w_X11_fetch Y h_t B_t (0 : Int32) t_n t_modulus t_rows t_strands t_letters t_listedMany t_listN t_listWhat t_kept t_keptMany t_table t_twists) := hD
  refine lv_aload_n hx hb dX11_fetch_5 rfl (lv_at hl 0 rfl) ?_
  refine lv_iload_n hx hb dX11_fetch_6 rfl (lv_at hl 1 rfl) ?_
  refine mc_iV ⟨hx, hb, hml, hown, hts⟩ hK hE hA hP hD hS (c_X11_isKept l G Y tF H.size h_t B_t (0 : Int32) t_n t_modulus t_rows t_strands t_letters t_listedMany t_listN t_listWhat t_keptMany x1 h) (cwV 1 hts gX11_fetch_X11_isKept rfl rfl rfl (by decide +kernel) ⟨Nat.le_trans (by decide) hRf, Nat.le_trans (by decide) hRl⟩) (fun u => (w_X11_fetch Y h_t B_t (0 : Int32) t_n t_modulus t_rows t_strands t_letters t_listedMany t_listN t_listWhat t_kept t_keptMany t_table t_twists)) [0, 2] [1, 3, 4] [3, 0, 4, 1, 2] rfl rfl rfl rfl (by decide) (fun _ => rfl) rfl 0 10 rfl rfl rfl rfl hl.1 rfl (Nat.le_of_ble_eq_true rfl) dX11_fetch_7 (fun r7 u H locs h hP hD hS => ?_)
  try dsimp only at h
  have hP : va_P G vwCl (w_X11_fetch Y h_t B_t (0 : Int32) t_n t_modulus t_rows t_strands t_letters t_listedMany t_listN t_listWhat t_kept t_keptMany t_table t_twists) H := hP
  have hD : va_D A (w_X11_fetch Y h_t B_t (0 : Int32) t_n t_modulus t_rows t_strands t_letters t_listedMany t_listN t_listWhat t_kept t_keptMany t_table t_twists) := hD
  obtain ⟨ht, hf⟩ := h
  refine lv_if_ne (tgt := 15) hx hb dX11_fetch_10 (by decide) (fun c9 => ?_) (fun c9 => ?_)
  · have h := ht c9
    refine lv_aload_n hx hb dX11_fetch_15 rfl (lv_at hl 0 rfl) ?_
    refine lv_aload_n hx hb dX11_fetch_16 rfl (lv_at hl 0 rfl) ?_
    refine va_get (D := G) (ci := 10) (v := .ref (B_t 9)) (C := RX11) (T := TX11) (N := 29) hx hb hts inX11 hown hK hP 0 rfl rfl 9 (by decide) hf35 (fun _ h9 => h9) rfl dX11_fetch_17 ?_
    refine lv_iload_n hx hb dX11_fetch_20 rfl (lv_at hl 1 rfl) ?_
    obtain ⟨hin, h⟩ := h
    refine va_iald hx hb hK hP 2 0 rfl rfl hin dX11_fetch_21 ?_
    refine mc_vV ⟨hx, hb, hml, hown, hts⟩ hK hE hA hP hD hS (c_X11_sized l G Y tF H.size h_t B_t (0 : Int32) t_n t_modulus t_rows t_strands t_letters t_listedMany t_listN t_listWhat t_twists (t_keptMany (Int32.toNatClampNeg x1)) h) (cwV 1 hts gX11_fetch_X11_sized rfl rfl rfl (by decide +kernel) ⟨Nat.le_trans (by decide) hRf, Nat.le_trans (by decide) hRl⟩) (fun u => (w_X11_fetch Y h_t B_t (0 : Int32) u.1 t_modulus t_rows t_strands t_letters t_listedMany t_listN t_listWhat t_kept t_keptMany t_table u.2)) [0, 4] [1, 2, 3] [3, 0, 1, 2, 4] rfl rfl rfl rfl (by decide) (fun _ => rfl) rfl 0 10 rfl rfl rfl rfl hl.1 rfl (Nat.le_of_ble_eq_true rfl) dX11_fetch_22 (fun u H locs h hP hD hS => ?_)
    obtain ⟨t_n_22, t_twists_22⟩ := u
    try dsimp only at h
    have hP : va_P G vwCl (w_X11_fetch Y h_t B_t (0 : Int32) t_n_22 t_modulus t_rows t_strands t_letters t_listedMany t_listN t_listWhat t_kept t_keptMany t_table t_twists_22) H := hP
    have hD : va_D A (w_X11_fetch Y h_t B_t (0 : Int32) t_n_22 t_modulus t_rows t_strands t_letters t_listedMany t_listN t_listWhat t_kept t_keptMany t_table t_twists_22) := hD
    refine lv_iconst (v := 0) hx hb dX11_fetch_25 (by decide) ?_
    refine lv_istore_n (lv' := [(2, .int (0 : Int32)), (0, .ref h_t), (1, .int x1)]) hx hb dX11_fetch_26 rfl hl (by decide) rfl (fun ls hl => ?_)
    obtain ⟨I27, m27, hI27, hB27⟩ := h
    have L27 : ∀ (x1 : Int32) (t_thrown : Int32) (t_n : Int32) (t_twists : Nat → Int32) (I27 : Int32 → (Nat → Int32) → Prop) (m27 : Int32 → (Nat → Int32) → Nat), (∀ (x2 : Int32) (t_table : Nat → Int32), I27 x2 t_table → pX11_fetch_27 t_kept t_keptMany K x1 t_thrown t_n t_twists x2 t_table (fun x2' t_table' => I27 x2' t_table' ∧ m27 x2' t_table' < m27 x2 t_table)) → ∀ (n : Nat) (x2 : Int32) (t_table : Nat → Int32) (H : Heap) (locs : List Loc) (ls : Array Slot), I27 x2 t_table → m27 x2 t_table < n → va_P G vwCl (w_X11_fetch Y h_t B_t t_thrown t_n t_modulus t_rows t_strands t_letters t_listedMany t_listN t_listWhat t_kept t_keptMany t_table t_twists) H → va_D A (w_X11_fetch Y h_t B_t t_thrown t_n t_modulus t_rows t_strands t_letters t_listedMany t_listN t_listWhat t_kept t_keptMany t_table t_twists) → va_S A s.heap H locs → lv_has ls 3 [(0, .ref h_t), (1, .int x1), (2, .int x2)] → W p l e R s m args below meth c H locs 0 0 Q (F0 m 27 ls []) := by
      intro x1 t_thrown t_n t_twists I27 m27 hB27 n
      induction n with
      | zero => intro x2 t_table H locs ls _ hm; exact absurd hm (Nat.not_lt_zero _)
      | succ n ih =>
        intro x2 t_table H locs ls hI hm hP hD hS hl
        obtain ⟨R27, h, rec27⟩ : ∃ R27 : Int32 → (Nat → Int32) → Prop, pX11_fetch_27 t_kept t_keptMany K x1 t_thrown t_n t_twists x2 t_table R27 ∧ ∀ (x2 : Int32) (t_table : Nat → Int32) (H : Heap) (locs : List Loc) (ls : Array Slot), R27 x2 t_table → va_P G vwCl (w_X11_fetch Y h_t B_t t_thrown t_n t_modulus t_rows t_strands t_letters t_listedMany t_listN t_listWhat t_kept t_keptMany t_table t_twists) H → va_D A (w_X11_fetch Y h_t B_t t_thrown t_n t_modulus t_rows t_strands t_letters t_listedMany t_listN t_listWhat t_kept t_keptMany t_table t_twists) → va_S A s.heap H locs → lv_has ls 3 [(0, .ref h_t), (1, .int x1), (2, .int x2)] → W p l e R s m args below meth c H locs 0 0 Q (F0 m 27 ls []) := ⟨_, hB27 x2 t_table hI, fun x2 t_table H locs ls hh hP hD hS hl => ih x2 t_table H locs ls hh.1 (Nat.lt_of_lt_of_le hh.2 (Nat.le_of_lt_succ hm)) hP hD hS hl⟩
        refine lv_iload_n hx hb dX11_fetch_27 rfl (lv_at hl 2 rfl) ?_
        refine lv_bipush (v := 64) hx hb dX11_fetch_28 (by decide) ?_
        obtain ⟨ht, hf⟩ := h
        refine lv_icmp_ge (tgt := 56) hx hb dX11_fetch_30 (by decide) (fun c9 => ?_) (fun c9 => ?_)
        · have h := ht c9
          refine lv_aload_n hx hb dX11_fetch_56 rfl (lv_at hl 0 rfl) ?_
          refine va_get (D := G) (ci := 10) (v := .int t_n) (C := RX11) (T := TX11) (N := 29) hx hb hts inX11 hown hK hP 0 rfl rfl 1 (by decide) hf9 (fun _ h9 => h9) rfl dX11_fetch_57 ?_
          exact hret t_n t_thrown t_n t_table t_twists H locs ls _ hP hD hS h dX11_fetch_60
        · have h := hf c9
          refine lv_aload_n hx hb dX11_fetch_33 rfl (lv_at hl 0 rfl) ?_
          refine va_get (D := G) (ci := 10) (v := .ref (B_t 2)) (C := RX11) (T := TX11) (N := 29) hx hb hts inX11 hown hK hP 0 rfl rfl 2 (by decide) hf13 (fun _ h9 => h9) rfl dX11_fetch_34 ?_
          refine lv_iload_n hx hb dX11_fetch_37 rfl (lv_at hl 2 rfl) ?_
          refine lv_aload_n hx hb dX11_fetch_38 rfl (lv_at hl 0 rfl) ?_
          refine va_get (D := G) (ci := 10) (v := .ref (B_t 10)) (C := RX11) (T := TX11) (N := 29) hx hb hts inX11 hown hK hP 0 rfl rfl 10 (by decide) hf38 (fun _ h9 => h9) rfl dX11_fetch_39 ?_
          refine lv_bipush (v := 64) hx hb dX11_fetch_42 (by decide) ?_
          refine lv_iload_n hx hb dX11_fetch_44 rfl (lv_at hl 1 rfl) ?_
          refine lv_imul hx hb dX11_fetch_45 ?_
          refine lv_iload_n hx hb dX11_fetch_46 rfl (lv_at hl 2 rfl) ?_
          refine lv_iadd hx hb dX11_fetch_47 ?_
          obtain ⟨hin, h⟩ := h
          refine va_iald hx hb hK hP 1 0 rfl rfl hin dX11_fetch_48 ?_
          obtain ⟨hin, h⟩ := h
          refine va_iast hx hb hK hP hD hS 3 0 rfl rfl hin dX11_fetch_49 (fun H locs hP hD hS => ?_)
          have hP : va_P G vwCl (w_X11_fetch Y h_t B_t t_thrown t_n t_modulus t_rows t_strands t_letters t_listedMany t_listN t_listWhat t_kept t_keptMany (upd t_table (Int32.toNatClampNeg x2) (t_kept (Int32.toNatClampNeg (((64 : Int32) * x1) + x2)))) t_twists) H := hP
          have hD : va_D A (w_X11_fetch Y h_t B_t t_thrown t_n t_modulus t_rows t_strands t_letters t_listedMany t_listN t_listWhat t_kept t_keptMany (upd t_table (Int32.toNatClampNeg x2) (t_kept (Int32.toNatClampNeg (((64 : Int32) * x1) + x2)))) t_twists) := hD
          refine lv_iinc (v := (x2 + 1)) (lv' := [(2, .int (x2 + 1)), (0, .ref h_t), (1, .int x1)]) hx hb dX11_fetch_50 hl (k := 2) rfl rfl (by decide) rfl (fun ls hl => ?_)
          refine lv_goto (tgt := 27) hx hb dX11_fetch_53 (by decide) ?_
          exact rec27 (x2 + 1) (upd t_table (Int32.toNatClampNeg x2) (t_kept (Int32.toNatClampNeg (((64 : Int32) * x1) + x2)))) H locs ls h hP hD hS (lv_sub hl [1, 2, 0] rfl)
    exact L27 x1 (0 : Int32) t_n_22 t_twists_22 I27 m27 hB27 _ (0 : Int32) t_table H locs ls hI27 (Nat.lt_succ_self _) hP hD hS (lv_sub hl [1, 2, 0] rfl)
  · have h := hf c9
    refine lv_iconst (v := -1) hx hb dX11_fetch_13 (by decide) ?_
    exact hret (-1 : Int32) (0 : Int32) t_n t_table t_twists H locs ls _ hP hD hS h dX11_fetch_14

set_option maxHeartbeats 4000000 in
set_option maxRecDepth 100000 in
theorem c_X11_fetch (l : Launch) (G : va_G) (Y : Nat → ClassId) (tF sz : Nat) (h_t : Nat) (B_t : Nat → Nat) (t_thrown : Int32) (t_n : Int32) (t_modulus : Int32) (t_rows : Int32) (t_strands : Int32) (t_letters : Int32) (t_listedMany : Int32) (t_listN : Int32) (t_listWhat : Int32) (t_kept : Nat → Int32) (t_keptMany : Nat → Int32) (t_table : Nat → Int32) (t_twists : Nat → Int32) (x1 : Int32) {K : Int32 → Int32 → Int32 → (Nat → Int32) → (Nat → Int32) → Prop} (h : pX11_fetch t_thrown t_n t_kept t_keptMany t_table t_twists x1 K) : Met l yX11_fetch wsX11_fetch ({ frames := 2, cells := 0, slots := 0, locals := 46 }) (PcM G Y tF sz (w_X11_fetch Y h_t B_t t_thrown t_n t_modulus t_rows t_strands t_letters t_listedMany t_listN t_listWhat t_kept t_keptMany t_table t_twists) [.ref h_t, .int x1]) (va_Qi (fun (r : Int32) (u : Int32 × Int32 × (Nat → Int32) × (Nat → Int32)) => K r u.1 u.2.1 u.2.2.1 u.2.2.2) (fun u t => BM G Y (va_A (w_X11_fetch Y h_t B_t t_thrown t_n t_modulus t_rows t_strands t_letters t_listedMany t_listN t_listWhat t_kept t_keptMany t_table t_twists) sz) (w_X11_fetch Y h_t B_t u.1 u.2.1 t_modulus t_rows t_strands t_letters t_listedMany t_listN t_listWhat t_kept t_keptMany u.2.2.1 u.2.2.2) t) (va_A (w_X11_fetch Y h_t B_t t_thrown t_n t_modulus t_rows t_strands t_letters t_listedMany t_listN t_listWhat t_kept t_keptMany t_table t_twists) sz)) 0 0 (va_A (w_X11_fetch Y h_t B_t t_thrown t_n t_modulus t_rows t_strands t_letters t_listedMany t_listN t_listWhat t_kept t_keptMany t_table t_twists) sz) := by
  refine Met.ofW (cc := cX11_fetch) (maxL := 3) (ret := (some .int)) (by decide +kernel) rfl ?_
  intro p e s m args below meth c s₁ B hml hv
  obtain ⟨rfl, hsz, hP, hK, hD0, hE⟩ := hv
  have hts := atoms_spec (ws := wsX11_fetch) B.pre
  have hown : s.vm.findClass RX11 = some m.cls := findClass_of_methodNamed B.named
  have hlocks := B.notSynchronized
  subst hsz
  have hD := hD0.self (sz := s.heap.size)
  exact wk_X11_fetch h_t B_t t_thrown t_n t_modulus t_rows t_strands t_letters t_listedMany t_listN t_listWhat t_kept t_keptMany t_table t_twists x1 B.exec B.bytes hml hown hts hK hE (fun q h => Or.inr h) (Nat.le_refl _) (Nat.le_refl _) (fun r t_thrown t_n t_table t_twists H locs ls pc hP hD hS hk hd => W.iret (v := r) B.exec B.bytes B.returns (fun t ht hW => ⟨⟨r, (t_thrown, t_n, t_table, t_twists), rfl, hk, by rw [ht]; exact hP, va_K.moved hW.alike hK, hD⟩, hS.F ht⟩) hS.2.2 hd) hP hD h

abbrev w_X11_count (Y : Nat → ClassId) (h_t : Nat) (B_t : Nat → Nat) (t_thrown : Int32) (t_n : Int32) (t_modulus : Int32) (t_rows : Int32) (t_strands : Int32) (t_letters : Int32) (t_listedMany : Int32) (t_listN : Int32) (t_listWhat : Int32) : va_W := [(h_t, .inr (10, [.int t_thrown, .int t_n, .ref (B_t 2), .int t_modulus, .ref (B_t 4), .ref (B_t 5), .ref (B_t 6), .ref (B_t 7), .ref (B_t 8), .ref (B_t 9), .ref (B_t 10), .int t_rows, .ref (B_t 12), .ref (B_t 13), .ref (B_t 14), .ref (B_t 15), .ref (B_t 16), .ref (B_t 17), .ref (B_t 18), .ref (B_t 19), .int t_strands, .int t_letters, .ref (B_t 22), .ref (B_t 23), .ref (B_t 24), .ref (B_t 25), .int t_listedMany, .int t_listN, .int t_listWhat]))]

set_option maxHeartbeats 4000000 in
set_option maxRecDepth 100000 in
theorem wk_X11_count {p : Program} {l : Launch} {e : Env} {R : Room} {s : State} {m : MethodId} {args : Array Value} {below : List Frame} {meth : Method} {c : Code} {Q : State → Prop} {G : va_G} {Y : Nat → ClassId} {tF : Nat} {A : Nat → Prop} (h_t : Nat) (B_t : Nat → Nat) (t_thrown : Int32) (t_n : Int32) (t_modulus : Int32) (t_rows : Int32) (t_strands : Int32) (t_letters : Int32) (t_listedMany : Int32) (t_listN : Int32) (t_listWhat : Int32) (x1 : Int32) {K : Int32 → Int32 → Prop} (hx : p.tables.exec = Jvm.exec) (hb : c.code = cX11_count) (hml : c.maxLocals = 2) (hown : s.vm.findClass RX11 = some m.cls) (hts : ∀ w ∈ wsX11_count, w.before args s = true) (hK : va_K G vwCl (tyL Y) s) (hE : Ev A tF s) (hA : ∀ q, s.heap.size ≤ q → A q) (hRf : 0 ≤ R.frames) (hRl : 0 ≤ R.locals) (hret : ∀ (r : Int32) (t_thrown : Int32) (H : Heap) (locs : List Loc) (ls : Array Slot) (pc : Nat), va_P G vwCl (w_X11_count Y h_t B_t t_thrown t_n t_modulus t_rows t_strands t_letters t_listedMany t_listN t_listWhat) H → va_D A (w_X11_count Y h_t B_t t_thrown t_n t_modulus t_rows t_strands t_letters t_listedMany t_listN t_listWhat) → va_S A s.heap H locs → K r t_thrown → decode cX11_count pc = .ok (.ireturn, 1) → W p l e R s m args below meth c H locs 0 0 Q (F0 m pc ls [.int r])) (hP : va_P G vwCl (w_X11_count Y h_t B_t t_thrown t_n t_modulus t_rows t_strands t_letters t_listedMany t_listN t_listWhat) s.heap) (hD : va_D A (w_X11_count Y h_t B_t t_thrown t_n t_modulus t_rows t_strands t_letters t_listedMany t_listN t_listWhat)) (h : pX11_count t_thrown t_n t_modulus t_rows t_strands t_letters x1 K) : W p l e R s m args below meth c s.heap [] 0 0 Q (entryFrame m ([.ref h_t, .int x1] : List Value).toArray 2) := by
  have inX11 : ∀ w ∈ u_ws RX11 TX11 29, w ∈ wsX11_count := by decide +kernel
  have hf141 := hts (.fieldLink RX11 141 "RackBenchModel" "letters" "I") (by decide +kernel)
  have hf144 := hts (.fieldLink RX11 144 "RackBenchModel" "rows" "I") (by decide +kernel)
  have hf17 := hts (.fieldLink RX11 17 "RackBenchModel" "modulus" "I") (by decide +kernel)
  have hf68 := hts (.fieldLink RX11 68 "RackBenchModel" "strands" "I") (by decide +kernel)
  have hf83 := hts (.fieldLink RX11 83 "RackBenchModel" "thrown" "I") (by decide +kernel)
  have hf9 := hts (.fieldLink RX11 9 "RackBenchModel" "n" "I") (by decide +kernel)
  have hl := lv_entry ([.ref h_t, .int x1]) (n := 2) (Nat.le_of_ble_eq_true rfl)
  rw [lg_entry_eq]
  generalize (lg_sl ([.ref h_t, .int x1]) ++ List.replicate (2 - (lg_sl ([.ref h_t, .int x1])).length) Slot.unset).toArray = ls at hl ⊢
  have hl : lv_has ls 2 [(0, .ref h_t), (1, .int x1)] := hl
  generalize hH0 : s.heap = H at hP ⊢
  have hS : va_S A s.heap H [] := by rw [← hH0]; exact va_S.rf
  clear hH0
  generalize ([] : List Loc) = locs at hS ⊢
  refine lv_aload_n hx hb dX11_count_0 rfl (lv_at hl 0 rfl) ?_
  refine lv_iconst (v := 0) hx hb dX11_count_1 (by decide) ?_
  refine va_put (D := G) (ci := 10) (v := .int (0 : Int32)) (ty := .int) (C := RX11) (T := TX11) (N := 29) hx hb hts inX11 tyX11 tyX11_ok nmX11 hown hK hP hD hS 0 rfl rfl 0 (by decide) hf83 (fun _ h9 => h9) rfl (by decide +kernel) rfl rfl (Nat.le_of_ble_eq_true rfl) dX11_count_2 (fun H locs hP hD hS => ?_)
  have hP : va_P G vwCl (w_X11_count Y h_t B_t (0 : Int32) t_n t_modulus t_rows t_strands t_letters t_listedMany t_listN t_listWhat) H := hP
  have hD : va_D A (w_X11_count Y h_t B_t (0 : Int32) t_n t_modulus t_rows t_strands t_letters t_listedMany t_listN t_listWhat) := hD
  refine lv_iload_n hx hb dX11_count_5 rfl (lv_at hl 1 rfl) ?_
  obtain ⟨hs0, hs1, hs2, hs3, hs4, hsd⟩ := h
  by_cases cs0 : x1 = 0
  · have h := hs0 cs0
    refine lv_tableIn (tgt := 40) hx hb dX11_count_6 (by rw [cs0]; decide) (by rw [cs0]; decide) (by rw [cs0]; rfl) (by decide) ?_
    refine lv_aload_n hx hb dX11_count_40 rfl (lv_at hl 0 rfl) ?_
    refine va_get (D := G) (ci := 10) (v := .int t_n) (C := RX11) (T := TX11) (N := 29) hx hb hts inX11 hown hK hP 0 rfl rfl 1 (by decide) hf9 (fun _ h9 => h9) rfl dX11_count_41 ?_
    exact hret t_n (0 : Int32) H locs ls _ hP hD hS h dX11_count_44
  by_cases cs1 : x1 = 1
  · have h := hs1 cs1
    refine lv_tableIn (tgt := 45) hx hb dX11_count_6 (by rw [cs1]; decide) (by rw [cs1]; decide) (by rw [cs1]; rfl) (by decide) ?_
    refine lv_aload_n hx hb dX11_count_45 rfl (lv_at hl 0 rfl) ?_
    refine va_get (D := G) (ci := 10) (v := .int t_modulus) (C := RX11) (T := TX11) (N := 29) hx hb hts inX11 hown hK hP 0 rfl rfl 3 (by decide) hf17 (fun _ h9 => h9) rfl dX11_count_46 ?_
    exact hret t_modulus (0 : Int32) H locs ls _ hP hD hS h dX11_count_49
  by_cases cs2 : x1 = 2
  · have h := hs2 cs2
    refine lv_tableIn (tgt := 50) hx hb dX11_count_6 (by rw [cs2]; decide) (by rw [cs2]; decide) (by rw [cs2]; rfl) (by decide) ?_
    refine lv_aload_n hx hb dX11_count_50 rfl (lv_at hl 0 rfl) ?_
    refine va_get (D := G) (ci := 10) (v := .int t_strands) (C := RX11) (T := TX11) (N := 29) hx hb hts inX11 hown hK hP 0 rfl rfl 20 (by decide) hf68 (fun _ h9 => h9) rfl dX11_count_51 ?_
    exact hret t_strands (0 : Int32) H locs ls _ hP hD hS h dX11_count_54
  by_cases cs3 : x1 = 3
  · have h := hs3 cs3
    refine lv_tableIn (tgt := 55) hx hb dX11_count_6 (by rw [cs3]; decide) (by rw [cs3]; decide) (by rw [cs3]; rfl) (by decide) ?_
    refine lv_aload_n hx hb dX11_count_55 rfl (lv_at hl 0 rfl) ?_
    refine va_get (D := G) (ci := 10) (v := .int t_letters) (C := RX11) (T := TX11) (N := 29) hx hb hts inX11 hown hK hP 0 rfl rfl 21 (by decide) hf141 (fun _ h9 => h9) rfl dX11_count_56 ?_
    exact hret t_letters (0 : Int32) H locs ls _ hP hD hS h dX11_count_59
  by_cases cs4 : x1 = 4
  · have h := hs4 cs4
    refine lv_tableIn (tgt := 60) hx hb dX11_count_6 (by rw [cs4]; decide) (by rw [cs4]; decide) (by rw [cs4]; rfl) (by decide) ?_
    refine lv_aload_n hx hb dX11_count_60 rfl (lv_at hl 0 rfl) ?_
    refine va_get (D := G) (ci := 10) (v := .int t_rows) (C := RX11) (T := TX11) (N := 29) hx hb hts inX11 hown hK hP 0 rfl rfl 11 (by decide) hf144 (fun _ h9 => h9) rfl dX11_count_61 ?_
    exact hret t_rows (0 : Int32) H locs ls _ hP hD hS h dX11_count_64
  have h := hsd cs0 cs1 cs2 cs3 cs4
  refine lv_tableOut (tgt := 65) hx hb dX11_count_6 (sw_out5 cs0 cs1 cs2 cs3 cs4) (by decide) ?_
  refine lv_iconst (v := -1) hx hb dX11_count_65 (by decide) ?_
  exact hret (-1 : Int32) (0 : Int32) H locs ls _ hP hD hS h dX11_count_66

set_option maxHeartbeats 4000000 in
set_option maxRecDepth 100000 in
theorem c_X11_count (l : Launch) (G : va_G) (Y : Nat → ClassId) (tF sz : Nat) (h_t : Nat) (B_t : Nat → Nat) (t_thrown : Int32) (t_n : Int32) (t_modulus : Int32) (t_rows : Int32) (t_strands : Int32) (t_letters : Int32) (t_listedMany : Int32) (t_listN : Int32) (t_listWhat : Int32) (x1 : Int32) {K : Int32 → Int32 → Prop} (h : pX11_count t_thrown t_n t_modulus t_rows t_strands t_letters x1 K) : Met l yX11_count wsX11_count ({ frames := 0, cells := 0, slots := 0, locals := 0 }) (PcM G Y tF sz (w_X11_count Y h_t B_t t_thrown t_n t_modulus t_rows t_strands t_letters t_listedMany t_listN t_listWhat) [.ref h_t, .int x1]) (va_Qi (fun (r : Int32) (u : Int32) => K r u) (fun u t => BM G Y (va_A (w_X11_count Y h_t B_t t_thrown t_n t_modulus t_rows t_strands t_letters t_listedMany t_listN t_listWhat) sz) (w_X11_count Y h_t B_t u t_n t_modulus t_rows t_strands t_letters t_listedMany t_listN t_listWhat) t) (va_A (w_X11_count Y h_t B_t t_thrown t_n t_modulus t_rows t_strands t_letters t_listedMany t_listN t_listWhat) sz)) 0 0 (va_A (w_X11_count Y h_t B_t t_thrown t_n t_modulus t_rows t_strands t_letters t_listedMany t_listN t_listWhat) sz) := by
  refine Met.ofW (cc := cX11_count) (maxL := 2) (ret := (some .int)) (by decide +kernel) rfl ?_
  intro p e s m args below meth c s₁ B hml hv
  obtain ⟨rfl, hsz, hP, hK, hD0, hE⟩ := hv
  have hts := atoms_spec (ws := wsX11_count) B.pre
  have hown : s.vm.findClass RX11 = some m.cls := findClass_of_methodNamed B.named
  have hlocks := B.notSynchronized
  subst hsz
  have hD := hD0.self (sz := s.heap.size)
  exact wk_X11_count h_t B_t t_thrown t_n t_modulus t_rows t_strands t_letters t_listedMany t_listN t_listWhat x1 B.exec B.bytes hml hown hts hK hE (fun q h => Or.inr h) (Nat.le_refl _) (Nat.le_refl _) (fun r t_thrown H locs ls pc hP hD hS hk hd => W.iret (v := r) B.exec B.bytes B.returns (fun t ht hW => ⟨⟨r, t_thrown, rfl, hk, by rw [ht]; exact hP, va_K.moved hW.alike hK, hD⟩, hS.F ht⟩) hS.2.2 hd) hP hD h

abbrev w_X11_unevenRow (Y : Nat → ClassId) (h_t : Nat) (B_t : Nat → Nat) (t_thrown : Int32) (t_n : Int32) (t_modulus : Int32) (t_rows : Int32) (t_strands : Int32) (t_letters : Int32) (t_listedMany : Int32) (t_listN : Int32) (t_listWhat : Int32) (t_table : Nat → Int32) : va_W := [(h_t, .inr (10, [.int t_thrown, .int t_n, .ref (B_t 2), .int t_modulus, .ref (B_t 4), .ref (B_t 5), .ref (B_t 6), .ref (B_t 7), .ref (B_t 8), .ref (B_t 9), .ref (B_t 10), .int t_rows, .ref (B_t 12), .ref (B_t 13), .ref (B_t 14), .ref (B_t 15), .ref (B_t 16), .ref (B_t 17), .ref (B_t 18), .ref (B_t 19), .int t_strands, .int t_letters, .ref (B_t 22), .ref (B_t 23), .ref (B_t 24), .ref (B_t 25), .int t_listedMany, .int t_listN, .int t_listWhat])), ((B_t 2), .inl (Y 0, 64, .inl t_table))]

set_option maxHeartbeats 4000000 in
set_option maxRecDepth 100000 in
theorem wk_X11_unevenRow {p : Program} {l : Launch} {e : Env} {R : Room} {s : State} {m : MethodId} {args : Array Value} {below : List Frame} {meth : Method} {c : Code} {Q : State → Prop} {G : va_G} {Y : Nat → ClassId} {tF : Nat} {A : Nat → Prop} (h_t : Nat) (B_t : Nat → Nat) (t_thrown : Int32) (t_n : Int32) (t_modulus : Int32) (t_rows : Int32) (t_strands : Int32) (t_letters : Int32) (t_listedMany : Int32) (t_listN : Int32) (t_listWhat : Int32) (t_table : Nat → Int32) {K : Int32 → Prop} (hx : p.tables.exec = Jvm.exec) (hb : c.code = cX11_unevenRow) (hml : c.maxLocals = 4) (hown : s.vm.findClass RX11 = some m.cls) (hts : ∀ w ∈ wsX11_unevenRow, w.before args s = true) (hK : va_K G vwCl (tyL Y) s) (hE : Ev A tF s) (hA : ∀ q, s.heap.size ≤ q → A q) (hRf : 1 ≤ R.frames) (hRl : 22 ≤ R.locals) (hret : ∀ (r : Int32)  (H : Heap) (locs : List Loc) (ls : Array Slot) (pc : Nat), va_P G vwCl (w_X11_unevenRow Y h_t B_t t_thrown t_n t_modulus t_rows t_strands t_letters t_listedMany t_listN t_listWhat t_table) H → va_D A (w_X11_unevenRow Y h_t B_t t_thrown t_n t_modulus t_rows t_strands t_letters t_listedMany t_listN t_listWhat t_table) → va_S A s.heap H locs → K r → decode cX11_unevenRow pc = .ok (.ireturn, 1) → W p l e R s m args below meth c H locs 0 0 Q (F0 m pc ls [.int r])) (hP : va_P G vwCl (w_X11_unevenRow Y h_t B_t t_thrown t_n t_modulus t_rows t_strands t_letters t_listedMany t_listN t_listWhat t_table) s.heap) (hD : va_D A (w_X11_unevenRow Y h_t B_t t_thrown t_n t_modulus t_rows t_strands t_letters t_listedMany t_listN t_listWhat t_table)) (h : pX11_unevenRow t_n t_table K) : W p l e R s m args below meth c s.heap [] 0 0 Q (entryFrame m ([.ref h_t] : List Value).toArray 4) := by
  have inX11 : ∀ w ∈ u_ws RX11 TX11 29, w ∈ wsX11_unevenRow := by decide +kernel
  have hf9 := hts (.fieldLink RX11 9 "RackBenchModel" "n" "I") (by decide +kernel)
  have hl := lv_entry ([.ref h_t]) (n := 4) (Nat.le_of_ble_eq_true rfl)
  rw [lg_entry_eq]
  generalize (lg_sl ([.ref h_t]) ++ List.replicate (4 - (lg_sl ([.ref h_t])).length) Slot.unset).toArray = ls at hl ⊢
  have hl : lv_has ls 4 [(0, .ref h_t)] := hl
  generalize hH0 : s.heap = H at hP ⊢
  have hS : va_S A s.heap H [] := by rw [← hH0]; exact va_S.rf
  clear hH0
  generalize ([] : List Loc) = locs at hS ⊢
  refine lv_iconst (v := 0) hx hb dX11_unevenRow_0 (by decide) ?_
  refine lv_istore_n (lv' := [(1, .int (0 : Int32)), (0, .ref h_t)]) hx hb dX11_unevenRow_1 rfl hl (by decide) rfl (fun ls hl => ?_)
  obtain ⟨I2, m2, hI2, hB2⟩ := h
  have L2 : ∀  (I2 : Int32 → Prop) (m2 : Int32 → Nat), (∀ (x1 : Int32), I2 x1 → pX11_unevenRow_2 t_n t_table K x1 (fun x1' => I2 x1' ∧ m2 x1' < m2 x1)) → ∀ (n : Nat) (x1 : Int32) (H : Heap) (locs : List Loc) (ls : Array Slot), I2 x1 → m2 x1 < n → va_P G vwCl (w_X11_unevenRow Y h_t B_t t_thrown t_n t_modulus t_rows t_strands t_letters t_listedMany t_listN t_listWhat t_table) H → va_D A (w_X11_unevenRow Y h_t B_t t_thrown t_n t_modulus t_rows t_strands t_letters t_listedMany t_listN t_listWhat t_table) → va_S A s.heap H locs → lv_has ls 4 [(0, .ref h_t), (1, .int x1)] → W p l e R s m args below meth c H locs 0 0 Q (F0 m 2 ls []) := by
    intro  I2 m2 hB2 n
    induction n with
    | zero => intro x1 H locs ls _ hm; exact absurd hm (Nat.not_lt_zero _)
    | succ n ih =>
      intro x1 H locs ls hI hm hP hD hS hl
      obtain ⟨R2, h, rec2⟩ : ∃ R2 : Int32 → Prop, pX11_unevenRow_2 t_n t_table K x1 R2 ∧ ∀ (x1 : Int32) (H : Heap) (locs : List Loc) (ls : Array Slot), R2 x1 → va_P G vwCl (w_X11_unevenRow Y h_t B_t t_thrown t_n t_modulus t_rows t_strands t_letters t_listedMany t_listN t_listWhat t_table) H → va_D A (w_X11_unevenRow Y h_t B_t t_thrown t_n t_modulus t_rows t_strands t_letters t_listedMany t_listN t_listWhat t_table) → va_S A s.heap H locs → lv_has ls 4 [(0, .ref h_t), (1, .int x1)] → W p l e R s m args below meth c H locs 0 0 Q (F0 m 2 ls []) := ⟨_, hB2 x1 hI, fun x1 H locs ls hh hP hD hS hl => ih x1 H locs ls hh.1 (Nat.lt_of_lt_of_le hh.2 (Nat.le_of_lt_succ hm)) hP hD hS hl⟩
      refine lv_iload_n hx hb dX11_unevenRow_2 rfl (lv_at hl 1 rfl) ?_
      refine lv_aload_n hx hb dX11_unevenRow_3 rfl (lv_at hl 0 rfl) ?_
      refine va_get (D := G) (ci := 10) (v := .int t_n) (C := RX11) (T := TX11) (N := 29) hx hb hts inX11 hown hK hP 0 rfl rfl 1 (by decide) hf9 (fun _ h9 => h9) rfl dX11_unevenRow_4 ?_
      obtain ⟨ht, hf⟩ := h
      refine lv_icmp_ge (tgt := 59) hx hb dX11_unevenRow_7 (by decide) (fun c9 => ?_) (fun c9 => ?_)
      · have h := ht c9
        refine lv_iconst (v := -1) hx hb dX11_unevenRow_59 (by decide) ?_
        exact hret (-1 : Int32)  H locs ls _ hP hD hS h dX11_unevenRow_60
      · have h := hf c9
        refine lv_iconst (v := 0) hx hb dX11_unevenRow_10 (by decide) ?_
        refine lv_istore_n (lv' := [(2, .int (0 : Int32)), (0, .ref h_t), (1, .int x1)]) hx hb dX11_unevenRow_11 rfl hl (by decide) rfl (fun ls hl => ?_)
        refine lv_iconst (v := 0) hx hb dX11_unevenRow_12 (by decide) ?_
        refine lv_istore_n (lv' := [(3, .int (0 : Int32)), (2, .int (0 : Int32)), (0, .ref h_t), (1, .int x1)]) hx hb dX11_unevenRow_13 rfl hl (by decide) rfl (fun ls hl => ?_)
        obtain ⟨I14, m14, hI14, hB14⟩ := h
        have L14 : ∀ (x1 : Int32) (I14 : Int32 → Int32 → Prop) (m14 : Int32 → Int32 → Nat), (∀ (x2 : Int32) (x3 : Int32), I14 x2 x3 → pX11_unevenRow_14 t_n t_table R2 K x1 x2 x3 (fun x2' x3' => I14 x2' x3' ∧ m14 x2' x3' < m14 x2 x3)) → ∀ (n : Nat) (x2 : Int32) (x3 : Int32) (H : Heap) (locs : List Loc) (ls : Array Slot), I14 x2 x3 → m14 x2 x3 < n → va_P G vwCl (w_X11_unevenRow Y h_t B_t t_thrown t_n t_modulus t_rows t_strands t_letters t_listedMany t_listN t_listWhat t_table) H → va_D A (w_X11_unevenRow Y h_t B_t t_thrown t_n t_modulus t_rows t_strands t_letters t_listedMany t_listN t_listWhat t_table) → va_S A s.heap H locs → lv_has ls 4 [(0, .ref h_t), (1, .int x1), (2, .int x2), (3, .int x3)] → W p l e R s m args below meth c H locs 0 0 Q (F0 m 14 ls []) := by
          intro x1 I14 m14 hB14 n
          induction n with
          | zero => intro x2 x3 H locs ls _ hm; exact absurd hm (Nat.not_lt_zero _)
          | succ n ih =>
            intro x2 x3 H locs ls hI hm hP hD hS hl
            obtain ⟨R14, h, rec14⟩ : ∃ R14 : Int32 → Int32 → Prop, pX11_unevenRow_14 t_n t_table R2 K x1 x2 x3 R14 ∧ ∀ (x2 : Int32) (x3 : Int32) (H : Heap) (locs : List Loc) (ls : Array Slot), R14 x2 x3 → va_P G vwCl (w_X11_unevenRow Y h_t B_t t_thrown t_n t_modulus t_rows t_strands t_letters t_listedMany t_listN t_listWhat t_table) H → va_D A (w_X11_unevenRow Y h_t B_t t_thrown t_n t_modulus t_rows t_strands t_letters t_listedMany t_listN t_listWhat t_table) → va_S A s.heap H locs → lv_has ls 4 [(0, .ref h_t), (1, .int x1), (2, .int x2), (3, .int x3)] → W p l e R s m args below meth c H locs 0 0 Q (F0 m 14 ls []) := ⟨_, hB14 x2 x3 hI, fun x2 x3 H locs ls hh hP hD hS hl => ih x2 x3 H locs ls hh.1 (Nat.lt_of_lt_of_le hh.2 (Nat.le_of_lt_succ hm)) hP hD hS hl⟩
            refine lv_iload_n hx hb dX11_unevenRow_14 rfl (lv_at hl 3 rfl) ?_
            refine lv_aload_n hx hb dX11_unevenRow_15 rfl (lv_at hl 0 rfl) ?_
            refine va_get (D := G) (ci := 10) (v := .int t_n) (C := RX11) (T := TX11) (N := 29) hx hb hts inX11 hown hK hP 0 rfl rfl 1 (by decide) hf9 (fun _ h9 => h9) rfl dX11_unevenRow_16 ?_
            obtain ⟨ht, hf⟩ := h
            refine lv_icmp_ge (tgt := 39) hx hb dX11_unevenRow_19 (by decide) (fun c9 => ?_) (fun c9 => ?_)
            · have h := ht c9
              refine lv_iload_n hx hb dX11_unevenRow_39 rfl (lv_at hl 2 rfl) ?_
              refine lv_iconst (v := 1) hx hb dX11_unevenRow_40 (by decide) ?_
              refine lv_aload_n hx hb dX11_unevenRow_41 rfl (lv_at hl 0 rfl) ?_
              refine va_get (D := G) (ci := 10) (v := .int t_n) (C := RX11) (T := TX11) (N := 29) hx hb hts inX11 hown hK hP 0 rfl rfl 1 (by decide) hf9 (fun _ h9 => h9) rfl dX11_unevenRow_42 ?_
              refine lv_ishl hx hb dX11_unevenRow_45 ?_
              refine lv_iconst (v := 1) hx hb dX11_unevenRow_46 (by decide) ?_
              refine lv_isub hx hb dX11_unevenRow_47 ?_
              obtain ⟨ht, hf⟩ := h
              refine lv_icmp_eq (tgt := 53) hx hb dX11_unevenRow_48 (by decide) (fun c9 => ?_) (fun c9 => ?_)
              · have h := ht c9
                refine lv_iinc (v := (x1 + 1)) (lv' := [(1, .int (x1 + 1)), (0, .ref h_t), (2, .int x2), (3, .int x3)]) hx hb dX11_unevenRow_53 hl (k := 1) rfl rfl (by decide) rfl (fun ls hl => ?_)
                refine lv_goto (tgt := 2) hx hb dX11_unevenRow_56 (by decide) ?_
                exact rec2 (x1 + 1) H locs ls h hP hD hS (lv_sub hl [1, 0] rfl)
              · have h := hf c9
                refine lv_iload_n hx hb dX11_unevenRow_51 rfl (lv_at hl 1 rfl) ?_
                exact hret x1  H locs ls _ hP hD hS h dX11_unevenRow_52
            · have h := hf c9
              refine lv_iload_n hx hb dX11_unevenRow_22 rfl (lv_at hl 2 rfl) ?_
              refine lv_iconst (v := 1) hx hb dX11_unevenRow_23 (by decide) ?_
              refine lv_aload_n hx hb dX11_unevenRow_24 rfl (lv_at hl 0 rfl) ?_
              refine lv_iload_n hx hb dX11_unevenRow_25 rfl (lv_at hl 1 rfl) ?_
              refine lv_iload_n hx hb dX11_unevenRow_26 rfl (lv_at hl 3 rfl) ?_
              refine mc_iV ⟨hx, hb, hml, hown, hts⟩ hK hE hA hP hD hS (c_X11_by l G Y tF H.size h_t B_t t_thrown t_n t_modulus t_rows t_strands t_letters t_listedMany t_listN t_listWhat t_table x1 x3 h) (cwV 2 hts gX11_unevenRow_X11_by rfl rfl rfl (by decide +kernel) ⟨Nat.le_trans (by decide) hRf, Nat.le_trans (by decide) hRl⟩) (fun u => (w_X11_unevenRow Y h_t B_t t_thrown t_n t_modulus t_rows t_strands t_letters t_listedMany t_listN t_listWhat t_table)) [0, 1] [] [0, 1] rfl rfl rfl rfl (by decide) (fun _ => rfl) rfl 0 10 rfl rfl rfl rfl hl.1 rfl (Nat.le_of_ble_eq_true rfl) dX11_unevenRow_27 (fun r27 u H locs h hP hD hS => ?_)
              try dsimp only at h
              have hP : va_P G vwCl (w_X11_unevenRow Y h_t B_t t_thrown t_n t_modulus t_rows t_strands t_letters t_listedMany t_listN t_listWhat t_table) H := hP
              have hD : va_D A (w_X11_unevenRow Y h_t B_t t_thrown t_n t_modulus t_rows t_strands t_letters t_listedMany t_listN t_listWhat t_table) := hD
              refine lv_ishl hx hb dX11_unevenRow_30 ?_
              refine lv_ior hx hb dX11_unevenRow_31 ?_
              refine lv_istore_n (lv' := [(2, .int (x2 ||| ((1 : Int32) <<< (r27 &&& 31)))), (0, .ref h_t), (1, .int x1), (3, .int x3)]) hx hb dX11_unevenRow_32 rfl hl (by decide) rfl (fun ls hl => ?_)
              refine lv_iinc (v := (x3 + 1)) (lv' := [(3, .int (x3 + 1)), (2, .int (x2 ||| ((1 : Int32) <<< (r27 &&& 31)))), (0, .ref h_t), (1, .int x1)]) hx hb dX11_unevenRow_33 hl (k := 3) rfl rfl (by decide) rfl (fun ls hl => ?_)
              refine lv_goto (tgt := 14) hx hb dX11_unevenRow_36 (by decide) ?_
              exact rec14 (x2 ||| ((1 : Int32) <<< (r27 &&& 31))) (x3 + 1) H locs ls h hP hD hS (lv_sub hl [2, 3, 1, 0] rfl)
        exact L14 x1 I14 m14 hB14 _ (0 : Int32) (0 : Int32) H locs ls hI14 (Nat.lt_succ_self _) hP hD hS (lv_sub hl [2, 3, 1, 0] rfl)
  exact L2  I2 m2 hB2 _ (0 : Int32) H locs ls hI2 (Nat.lt_succ_self _) hP hD hS (lv_sub hl [1, 0] rfl)

set_option maxHeartbeats 4000000 in
set_option maxRecDepth 100000 in
theorem c_X11_unevenRow (l : Launch) (G : va_G) (Y : Nat → ClassId) (tF sz : Nat) (h_t : Nat) (B_t : Nat → Nat) (t_thrown : Int32) (t_n : Int32) (t_modulus : Int32) (t_rows : Int32) (t_strands : Int32) (t_letters : Int32) (t_listedMany : Int32) (t_listN : Int32) (t_listWhat : Int32) (t_table : Nat → Int32) {K : Int32 → Prop} (h : pX11_unevenRow t_n t_table K) : Met l yX11_unevenRow wsX11_unevenRow ({ frames := 1, cells := 0, slots := 0, locals := 22 }) (PcM G Y tF sz (w_X11_unevenRow Y h_t B_t t_thrown t_n t_modulus t_rows t_strands t_letters t_listedMany t_listN t_listWhat t_table) [.ref h_t]) (va_Qi (fun (r : Int32) (u : Unit) => K r ) (fun u t => BM G Y (va_A (w_X11_unevenRow Y h_t B_t t_thrown t_n t_modulus t_rows t_strands t_letters t_listedMany t_listN t_listWhat t_table) sz) (w_X11_unevenRow Y h_t B_t t_thrown t_n t_modulus t_rows t_strands t_letters t_listedMany t_listN t_listWhat t_table) t) (va_A (w_X11_unevenRow Y h_t B_t t_thrown t_n t_modulus t_rows t_strands t_letters t_listedMany t_listN t_listWhat t_table) sz)) 0 0 (va_A (w_X11_unevenRow Y h_t B_t t_thrown t_n t_modulus t_rows t_strands t_letters t_listedMany t_listN t_listWhat t_table) sz) := by
  refine Met.ofW (cc := cX11_unevenRow) (maxL := 4) (ret := (some .int)) (by decide +kernel) rfl ?_
  intro p e s m args below meth c s₁ B hml hv
  obtain ⟨rfl, hsz, hP, hK, hD0, hE⟩ := hv
  have hts := atoms_spec (ws := wsX11_unevenRow) B.pre
  have hown : s.vm.findClass RX11 = some m.cls := findClass_of_methodNamed B.named
  have hlocks := B.notSynchronized
  subst hsz
  have hD := hD0.self (sz := s.heap.size)
  exact wk_X11_unevenRow h_t B_t t_thrown t_n t_modulus t_rows t_strands t_letters t_listedMany t_listN t_listWhat t_table B.exec B.bytes hml hown hts hK hE (fun q h => Or.inr h) (Nat.le_refl _) (Nat.le_refl _) (fun r  H locs ls pc hP hD hS hk hd => W.iret (v := r) B.exec B.bytes B.returns (fun t ht hW => ⟨⟨r, (), rfl, hk, by rw [ht]; exact hP, va_K.moved hW.alike hK, hD⟩, hS.F ht⟩) hS.2.2 hd) hP hD h

abbrev w_X11_unruly (Y : Nat → ClassId) (h_t : Nat) (B_t : Nat → Nat) (t_thrown : Int32) (t_n : Int32) (t_modulus : Int32) (t_rows : Int32) (t_strands : Int32) (t_letters : Int32) (t_listedMany : Int32) (t_listN : Int32) (t_listWhat : Int32) (t_table : Nat → Int32) : va_W := [(h_t, .inr (10, [.int t_thrown, .int t_n, .ref (B_t 2), .int t_modulus, .ref (B_t 4), .ref (B_t 5), .ref (B_t 6), .ref (B_t 7), .ref (B_t 8), .ref (B_t 9), .ref (B_t 10), .int t_rows, .ref (B_t 12), .ref (B_t 13), .ref (B_t 14), .ref (B_t 15), .ref (B_t 16), .ref (B_t 17), .ref (B_t 18), .ref (B_t 19), .int t_strands, .int t_letters, .ref (B_t 22), .ref (B_t 23), .ref (B_t 24), .ref (B_t 25), .int t_listedMany, .int t_listN, .int t_listWhat])), ((B_t 2), .inl (Y 0, 64, .inl t_table))]

set_option maxHeartbeats 4000000 in
set_option maxRecDepth 100000 in
theorem wk_X11_unruly {p : Program} {l : Launch} {e : Env} {R : Room} {s : State} {m : MethodId} {args : Array Value} {below : List Frame} {meth : Method} {c : Code} {Q : State → Prop} {G : va_G} {Y : Nat → ClassId} {tF : Nat} {A : Nat → Prop} (h_t : Nat) (B_t : Nat → Nat) (t_thrown : Int32) (t_n : Int32) (t_modulus : Int32) (t_rows : Int32) (t_strands : Int32) (t_letters : Int32) (t_listedMany : Int32) (t_listN : Int32) (t_listWhat : Int32) (t_table : Nat → Int32) {K : Int32 → Prop} (hx : p.tables.exec = Jvm.exec) (hb : c.code = cX11_unruly) (hml : c.maxLocals = 4) (hown : s.vm.findClass RX11 = some m.cls) (hts : ∀ w ∈ wsX11_unruly, w.before args s = true) (hK : va_K G vwCl (tyL Y) s) (hE : Ev A tF s) (hA : ∀ q, s.heap.size ≤ q → A q) (hRf : 1 ≤ R.frames) (hRl : 22 ≤ R.locals) (hret : ∀ (r : Int32)  (H : Heap) (locs : List Loc) (ls : Array Slot) (pc : Nat), va_P G vwCl (w_X11_unruly Y h_t B_t t_thrown t_n t_modulus t_rows t_strands t_letters t_listedMany t_listN t_listWhat t_table) H → va_D A (w_X11_unruly Y h_t B_t t_thrown t_n t_modulus t_rows t_strands t_letters t_listedMany t_listN t_listWhat t_table) → va_S A s.heap H locs → K r → decode cX11_unruly pc = .ok (.ireturn, 1) → W p l e R s m args below meth c H locs 0 0 Q (F0 m pc ls [.int r])) (hP : va_P G vwCl (w_X11_unruly Y h_t B_t t_thrown t_n t_modulus t_rows t_strands t_letters t_listedMany t_listN t_listWhat t_table) s.heap) (hD : va_D A (w_X11_unruly Y h_t B_t t_thrown t_n t_modulus t_rows t_strands t_letters t_listedMany t_listN t_listWhat t_table)) (h : pX11_unruly t_n t_table K) : W p l e R s m args below meth c s.heap [] 0 0 Q (entryFrame m ([.ref h_t] : List Value).toArray 4) := by
  have inX11 : ∀ w ∈ u_ws RX11 TX11 29, w ∈ wsX11_unruly := by decide +kernel
  have hf9 := hts (.fieldLink RX11 9 "RackBenchModel" "n" "I") (by decide +kernel)
  have hl := lv_entry ([.ref h_t]) (n := 4) (Nat.le_of_ble_eq_true rfl)
  rw [lg_entry_eq]
  generalize (lg_sl ([.ref h_t]) ++ List.replicate (4 - (lg_sl ([.ref h_t])).length) Slot.unset).toArray = ls at hl ⊢
  have hl : lv_has ls 4 [(0, .ref h_t)] := hl
  generalize hH0 : s.heap = H at hP ⊢
  have hS : va_S A s.heap H [] := by rw [← hH0]; exact va_S.rf
  clear hH0
  generalize ([] : List Loc) = locs at hS ⊢
  refine lv_iconst (v := 0) hx hb dX11_unruly_0 (by decide) ?_
  refine lv_istore_n (lv' := [(1, .int (0 : Int32)), (0, .ref h_t)]) hx hb dX11_unruly_1 rfl hl (by decide) rfl (fun ls hl => ?_)
  obtain ⟨I2, m2, hI2, hB2⟩ := h
  have L2 : ∀  (I2 : Int32 → Prop) (m2 : Int32 → Nat), (∀ (x1 : Int32), I2 x1 → pX11_unruly_2 t_n t_table K x1 (fun x1' => I2 x1' ∧ m2 x1' < m2 x1)) → ∀ (n : Nat) (x1 : Int32) (H : Heap) (locs : List Loc) (ls : Array Slot), I2 x1 → m2 x1 < n → va_P G vwCl (w_X11_unruly Y h_t B_t t_thrown t_n t_modulus t_rows t_strands t_letters t_listedMany t_listN t_listWhat t_table) H → va_D A (w_X11_unruly Y h_t B_t t_thrown t_n t_modulus t_rows t_strands t_letters t_listedMany t_listN t_listWhat t_table) → va_S A s.heap H locs → lv_has ls 4 [(0, .ref h_t), (1, .int x1)] → W p l e R s m args below meth c H locs 0 0 Q (F0 m 2 ls []) := by
    intro  I2 m2 hB2 n
    induction n with
    | zero => intro x1 H locs ls _ hm; exact absurd hm (Nat.not_lt_zero _)
    | succ n ih =>
      intro x1 H locs ls hI hm hP hD hS hl
      obtain ⟨R2, h, rec2⟩ : ∃ R2 : Int32 → Prop, pX11_unruly_2 t_n t_table K x1 R2 ∧ ∀ (x1 : Int32) (H : Heap) (locs : List Loc) (ls : Array Slot), R2 x1 → va_P G vwCl (w_X11_unruly Y h_t B_t t_thrown t_n t_modulus t_rows t_strands t_letters t_listedMany t_listN t_listWhat t_table) H → va_D A (w_X11_unruly Y h_t B_t t_thrown t_n t_modulus t_rows t_strands t_letters t_listedMany t_listN t_listWhat t_table) → va_S A s.heap H locs → lv_has ls 4 [(0, .ref h_t), (1, .int x1)] → W p l e R s m args below meth c H locs 0 0 Q (F0 m 2 ls []) := ⟨_, hB2 x1 hI, fun x1 H locs ls hh hP hD hS hl => ih x1 H locs ls hh.1 (Nat.lt_of_lt_of_le hh.2 (Nat.le_of_lt_succ hm)) hP hD hS hl⟩
      refine lv_iload_n hx hb dX11_unruly_2 rfl (lv_at hl 1 rfl) ?_
      refine lv_aload_n hx hb dX11_unruly_3 rfl (lv_at hl 0 rfl) ?_
      refine va_get (D := G) (ci := 10) (v := .int t_n) (C := RX11) (T := TX11) (N := 29) hx hb hts inX11 hown hK hP 0 rfl rfl 1 (by decide) hf9 (fun _ h9 => h9) rfl dX11_unruly_4 ?_
      obtain ⟨ht, hf⟩ := h
      refine lv_icmp_ge (tgt := 90) hx hb dX11_unruly_7 (by decide) (fun c9 => ?_) (fun c9 => ?_)
      · have h := ht c9
        refine lv_iconst (v := -1) hx hb dX11_unruly_90 (by decide) ?_
        exact hret (-1 : Int32)  H locs ls _ hP hD hS h dX11_unruly_91
      · have h := hf c9
        refine lv_iconst (v := 0) hx hb dX11_unruly_10 (by decide) ?_
        refine lv_istore_n (lv' := [(2, .int (0 : Int32)), (0, .ref h_t), (1, .int x1)]) hx hb dX11_unruly_11 rfl hl (by decide) rfl (fun ls hl => ?_)
        obtain ⟨I12, m12, hI12, hB12⟩ := h
        have L12 : ∀ (x1 : Int32) (I12 : Int32 → Prop) (m12 : Int32 → Nat), (∀ (x2 : Int32), I12 x2 → pX11_unruly_12 t_n t_table R2 K x1 x2 (fun x2' => I12 x2' ∧ m12 x2' < m12 x2)) → ∀ (n : Nat) (x2 : Int32) (H : Heap) (locs : List Loc) (ls : Array Slot), I12 x2 → m12 x2 < n → va_P G vwCl (w_X11_unruly Y h_t B_t t_thrown t_n t_modulus t_rows t_strands t_letters t_listedMany t_listN t_listWhat t_table) H → va_D A (w_X11_unruly Y h_t B_t t_thrown t_n t_modulus t_rows t_strands t_letters t_listedMany t_listN t_listWhat t_table) → va_S A s.heap H locs → lv_has ls 4 [(0, .ref h_t), (1, .int x1), (2, .int x2)] → W p l e R s m args below meth c H locs 0 0 Q (F0 m 12 ls []) := by
          intro x1 I12 m12 hB12 n
          induction n with
          | zero => intro x2 H locs ls _ hm; exact absurd hm (Nat.not_lt_zero _)
          | succ n ih =>
            intro x2 H locs ls hI hm hP hD hS hl
            obtain ⟨R12, h, rec12⟩ : ∃ R12 : Int32 → Prop, pX11_unruly_12 t_n t_table R2 K x1 x2 R12 ∧ ∀ (x2 : Int32) (H : Heap) (locs : List Loc) (ls : Array Slot), R12 x2 → va_P G vwCl (w_X11_unruly Y h_t B_t t_thrown t_n t_modulus t_rows t_strands t_letters t_listedMany t_listN t_listWhat t_table) H → va_D A (w_X11_unruly Y h_t B_t t_thrown t_n t_modulus t_rows t_strands t_letters t_listedMany t_listN t_listWhat t_table) → va_S A s.heap H locs → lv_has ls 4 [(0, .ref h_t), (1, .int x1), (2, .int x2)] → W p l e R s m args below meth c H locs 0 0 Q (F0 m 12 ls []) := ⟨_, hB12 x2 hI, fun x2 H locs ls hh hP hD hS hl => ih x2 H locs ls hh.1 (Nat.lt_of_lt_of_le hh.2 (Nat.le_of_lt_succ hm)) hP hD hS hl⟩
            refine lv_iload_n hx hb dX11_unruly_12 rfl (lv_at hl 2 rfl) ?_
            refine lv_aload_n hx hb dX11_unruly_13 rfl (lv_at hl 0 rfl) ?_
            refine va_get (D := G) (ci := 10) (v := .int t_n) (C := RX11) (T := TX11) (N := 29) hx hb hts inX11 hown hK hP 0 rfl rfl 1 (by decide) hf9 (fun _ h9 => h9) rfl dX11_unruly_14 ?_
            obtain ⟨ht, hf⟩ := h
            refine lv_icmp_ge (tgt := 84) hx hb dX11_unruly_17 (by decide) (fun c9 => ?_) (fun c9 => ?_)
            · have h := ht c9
              refine lv_iinc (v := (x1 + 1)) (lv' := [(1, .int (x1 + 1)), (0, .ref h_t), (2, .int x2)]) hx hb dX11_unruly_84 hl (k := 1) rfl rfl (by decide) rfl (fun ls hl => ?_)
              refine lv_goto (tgt := 2) hx hb dX11_unruly_87 (by decide) ?_
              exact rec2 (x1 + 1) H locs ls h hP hD hS (lv_sub hl [1, 0] rfl)
            · have h := hf c9
              refine lv_iconst (v := 0) hx hb dX11_unruly_20 (by decide) ?_
              refine lv_istore_n (lv' := [(3, .int (0 : Int32)), (0, .ref h_t), (1, .int x1), (2, .int x2)]) hx hb dX11_unruly_21 rfl hl (by decide) rfl (fun ls hl => ?_)
              obtain ⟨I22, m22, hI22, hB22⟩ := h
              have L22 : ∀ (x2 : Int32) (I22 : Int32 → Prop) (m22 : Int32 → Nat), (∀ (x3 : Int32), I22 x3 → pX11_unruly_22 t_n t_table R2 R12 K x1 x2 x3 (fun x3' => I22 x3' ∧ m22 x3' < m22 x3)) → ∀ (n : Nat) (x3 : Int32) (H : Heap) (locs : List Loc) (ls : Array Slot), I22 x3 → m22 x3 < n → va_P G vwCl (w_X11_unruly Y h_t B_t t_thrown t_n t_modulus t_rows t_strands t_letters t_listedMany t_listN t_listWhat t_table) H → va_D A (w_X11_unruly Y h_t B_t t_thrown t_n t_modulus t_rows t_strands t_letters t_listedMany t_listN t_listWhat t_table) → va_S A s.heap H locs → lv_has ls 4 [(0, .ref h_t), (1, .int x1), (2, .int x2), (3, .int x3)] → W p l e R s m args below meth c H locs 0 0 Q (F0 m 22 ls []) := by
                intro x2 I22 m22 hB22 n
                induction n with
                | zero => intro x3 H locs ls _ hm; exact absurd hm (Nat.not_lt_zero _)
                | succ n ih =>
                  intro x3 H locs ls hI hm hP hD hS hl
                  obtain ⟨R22, h, rec22⟩ : ∃ R22 : Int32 → Prop, pX11_unruly_22 t_n t_table R2 R12 K x1 x2 x3 R22 ∧ ∀ (x3 : Int32) (H : Heap) (locs : List Loc) (ls : Array Slot), R22 x3 → va_P G vwCl (w_X11_unruly Y h_t B_t t_thrown t_n t_modulus t_rows t_strands t_letters t_listedMany t_listN t_listWhat t_table) H → va_D A (w_X11_unruly Y h_t B_t t_thrown t_n t_modulus t_rows t_strands t_letters t_listedMany t_listN t_listWhat t_table) → va_S A s.heap H locs → lv_has ls 4 [(0, .ref h_t), (1, .int x1), (2, .int x2), (3, .int x3)] → W p l e R s m args below meth c H locs 0 0 Q (F0 m 22 ls []) := ⟨_, hB22 x3 hI, fun x3 H locs ls hh hP hD hS hl => ih x3 H locs ls hh.1 (Nat.lt_of_lt_of_le hh.2 (Nat.le_of_lt_succ hm)) hP hD hS hl⟩
                  refine lv_iload_n hx hb dX11_unruly_22 rfl (lv_at hl 3 rfl) ?_
                  refine lv_aload_n hx hb dX11_unruly_23 rfl (lv_at hl 0 rfl) ?_
                  refine va_get (D := G) (ci := 10) (v := .int t_n) (C := RX11) (T := TX11) (N := 29) hx hb hts inX11 hown hK hP 0 rfl rfl 1 (by decide) hf9 (fun _ h9 => h9) rfl dX11_unruly_24 ?_
                  obtain ⟨ht, hf⟩ := h
                  refine lv_icmp_ge (tgt := 78) hx hb dX11_unruly_27 (by decide) (fun c9 => ?_) (fun c9 => ?_)
                  · have h := ht c9
                    refine lv_iinc (v := (x2 + 1)) (lv' := [(2, .int (x2 + 1)), (0, .ref h_t), (1, .int x1), (3, .int x3)]) hx hb dX11_unruly_78 hl (k := 2) rfl rfl (by decide) rfl (fun ls hl => ?_)
                    refine lv_goto (tgt := 12) hx hb dX11_unruly_81 (by decide) ?_
                    exact rec12 (x2 + 1) H locs ls h hP hD hS (lv_sub hl [1, 2, 0] rfl)
                  · have h := hf c9
                    refine lv_aload_n hx hb dX11_unruly_30 rfl (lv_at hl 0 rfl) ?_
                    refine lv_iload_n hx hb dX11_unruly_31 rfl (lv_at hl 1 rfl) ?_
                    refine lv_aload_n hx hb dX11_unruly_32 rfl (lv_at hl 0 rfl) ?_
                    refine lv_iload_n hx hb dX11_unruly_33 rfl (lv_at hl 2 rfl) ?_
                    refine lv_iload_n hx hb dX11_unruly_34 rfl (lv_at hl 3 rfl) ?_
                    refine mc_iV ⟨hx, hb, hml, hown, hts⟩ hK hE hA hP hD hS (c_X11_by l G Y tF H.size h_t B_t t_thrown t_n t_modulus t_rows t_strands t_letters t_listedMany t_listN t_listWhat t_table x2 x3 h) (cwV 2 hts gX11_unruly_X11_by rfl rfl rfl (by decide +kernel) ⟨Nat.le_trans (by decide) hRf, Nat.le_trans (by decide) hRl⟩) (fun u => (w_X11_unruly Y h_t B_t t_thrown t_n t_modulus t_rows t_strands t_letters t_listedMany t_listN t_listWhat t_table)) [0, 1] [] [0, 1] rfl rfl rfl rfl (by decide) (fun _ => rfl) rfl 0 10 rfl rfl rfl rfl hl.1 rfl (Nat.le_of_ble_eq_true rfl) dX11_unruly_35 (fun r35 u H locs h hP hD hS => ?_)
                    try dsimp only at h
                    have hP : va_P G vwCl (w_X11_unruly Y h_t B_t t_thrown t_n t_modulus t_rows t_strands t_letters t_listedMany t_listN t_listWhat t_table) H := hP
                    have hD : va_D A (w_X11_unruly Y h_t B_t t_thrown t_n t_modulus t_rows t_strands t_letters t_listedMany t_listN t_listWhat t_table) := hD
                    refine mc_iV ⟨hx, hb, hml, hown, hts⟩ hK hE hA hP hD hS (c_X11_by l G Y tF H.size h_t B_t t_thrown t_n t_modulus t_rows t_strands t_letters t_listedMany t_listN t_listWhat t_table x1 r35 h) (cwV 2 hts gX11_unruly_X11_by rfl rfl rfl (by decide +kernel) ⟨Nat.le_trans (by decide) hRf, Nat.le_trans (by decide) hRl⟩) (fun u => (w_X11_unruly Y h_t B_t t_thrown t_n t_modulus t_rows t_strands t_letters t_listedMany t_listN t_listWhat t_table)) [0, 1] [] [0, 1] rfl rfl rfl rfl (by decide) (fun _ => rfl) rfl 0 10 rfl rfl rfl rfl hl.1 rfl (Nat.le_of_ble_eq_true rfl) dX11_unruly_38 (fun r38 u H locs h hP hD hS => ?_)
                    try dsimp only at h
                    have hP : va_P G vwCl (w_X11_unruly Y h_t B_t t_thrown t_n t_modulus t_rows t_strands t_letters t_listedMany t_listN t_listWhat t_table) H := hP
                    have hD : va_D A (w_X11_unruly Y h_t B_t t_thrown t_n t_modulus t_rows t_strands t_letters t_listedMany t_listN t_listWhat t_table) := hD
                    refine lv_aload_n hx hb dX11_unruly_41 rfl (lv_at hl 0 rfl) ?_
                    refine lv_aload_n hx hb dX11_unruly_42 rfl (lv_at hl 0 rfl) ?_
                    refine lv_iload_n hx hb dX11_unruly_43 rfl (lv_at hl 1 rfl) ?_
                    refine lv_iload_n hx hb dX11_unruly_44 rfl (lv_at hl 2 rfl) ?_
                    refine mc_iV ⟨hx, hb, hml, hown, hts⟩ hK hE hA hP hD hS (c_X11_by l G Y tF H.size h_t B_t t_thrown t_n t_modulus t_rows t_strands t_letters t_listedMany t_listN t_listWhat t_table x1 x2 h) (cwV 2 hts gX11_unruly_X11_by rfl rfl rfl (by decide +kernel) ⟨Nat.le_trans (by decide) hRf, Nat.le_trans (by decide) hRl⟩) (fun u => (w_X11_unruly Y h_t B_t t_thrown t_n t_modulus t_rows t_strands t_letters t_listedMany t_listN t_listWhat t_table)) [0, 1] [] [0, 1] rfl rfl rfl rfl (by decide) (fun _ => rfl) rfl 0 10 rfl rfl rfl rfl hl.1 rfl (Nat.le_of_ble_eq_true rfl) dX11_unruly_45 (fun r45 u H locs h hP hD hS => ?_)
                    try dsimp only at h
                    have hP : va_P G vwCl (w_X11_unruly Y h_t B_t t_thrown t_n t_modulus t_rows t_strands t_letters t_listedMany t_listN t_listWhat t_table) H := hP
                    have hD : va_D A (w_X11_unruly Y h_t B_t t_thrown t_n t_modulus t_rows t_strands t_letters t_listedMany t_listN t_listWhat t_table) := hD
                    refine lv_aload_n hx hb dX11_unruly_48 rfl (lv_at hl 0 rfl) ?_
                    refine lv_iload_n hx hb dX11_unruly_49 rfl (lv_at hl 1 rfl) ?_
                    refine lv_iload_n hx hb dX11_unruly_50 rfl (lv_at hl 3 rfl) ?_
                    refine mc_iV ⟨hx, hb, hml, hown, hts⟩ hK hE hA hP hD hS (c_X11_by l G Y tF H.size h_t B_t t_thrown t_n t_modulus t_rows t_strands t_letters t_listedMany t_listN t_listWhat t_table x1 x3 h) (cwV 2 hts gX11_unruly_X11_by rfl rfl rfl (by decide +kernel) ⟨Nat.le_trans (by decide) hRf, Nat.le_trans (by decide) hRl⟩) (fun u => (w_X11_unruly Y h_t B_t t_thrown t_n t_modulus t_rows t_strands t_letters t_listedMany t_listN t_listWhat t_table)) [0, 1] [] [0, 1] rfl rfl rfl rfl (by decide) (fun _ => rfl) rfl 0 10 rfl rfl rfl rfl hl.1 rfl (Nat.le_of_ble_eq_true rfl) dX11_unruly_51 (fun r51 u H locs h hP hD hS => ?_)
                    try dsimp only at h
                    have hP : va_P G vwCl (w_X11_unruly Y h_t B_t t_thrown t_n t_modulus t_rows t_strands t_letters t_listedMany t_listN t_listWhat t_table) H := hP
                    have hD : va_D A (w_X11_unruly Y h_t B_t t_thrown t_n t_modulus t_rows t_strands t_letters t_listedMany t_listN t_listWhat t_table) := hD
                    refine mc_iV ⟨hx, hb, hml, hown, hts⟩ hK hE hA hP hD hS (c_X11_by l G Y tF H.size h_t B_t t_thrown t_n t_modulus t_rows t_strands t_letters t_listedMany t_listN t_listWhat t_table r45 r51 h) (cwV 2 hts gX11_unruly_X11_by rfl rfl rfl (by decide +kernel) ⟨Nat.le_trans (by decide) hRf, Nat.le_trans (by decide) hRl⟩) (fun u => (w_X11_unruly Y h_t B_t t_thrown t_n t_modulus t_rows t_strands t_letters t_listedMany t_listN t_listWhat t_table)) [0, 1] [] [0, 1] rfl rfl rfl rfl (by decide) (fun _ => rfl) rfl 0 10 rfl rfl rfl rfl hl.1 rfl (Nat.le_of_ble_eq_true rfl) dX11_unruly_54 (fun r54 u H locs h hP hD hS => ?_)
                    try dsimp only at h
                    have hP : va_P G vwCl (w_X11_unruly Y h_t B_t t_thrown t_n t_modulus t_rows t_strands t_letters t_listedMany t_listN t_listWhat t_table) H := hP
                    have hD : va_D A (w_X11_unruly Y h_t B_t t_thrown t_n t_modulus t_rows t_strands t_letters t_listedMany t_listN t_listWhat t_table) := hD
                    obtain ⟨ht, hf⟩ := h
                    refine lv_icmp_eq (tgt := 72) hx hb dX11_unruly_57 (by decide) (fun c9 => ?_) (fun c9 => ?_)
                    · have h := ht c9
                      refine lv_iinc (v := (x3 + 1)) (lv' := [(3, .int (x3 + 1)), (0, .ref h_t), (1, .int x1), (2, .int x2)]) hx hb dX11_unruly_72 hl (k := 3) rfl rfl (by decide) rfl (fun ls hl => ?_)
                      refine lv_goto (tgt := 22) hx hb dX11_unruly_75 (by decide) ?_
                      exact rec22 (x3 + 1) H locs ls h hP hD hS (lv_sub hl [1, 2, 3, 0] rfl)
                    · have h := hf c9
                      refine lv_iload_n hx hb dX11_unruly_60 rfl (lv_at hl 1 rfl) ?_
                      refine lv_bipush (v := 8) hx hb dX11_unruly_61 (by decide) ?_
                      refine lv_imul hx hb dX11_unruly_63 ?_
                      refine lv_iload_n hx hb dX11_unruly_64 rfl (lv_at hl 2 rfl) ?_
                      refine lv_iadd hx hb dX11_unruly_65 ?_
                      refine lv_bipush (v := 8) hx hb dX11_unruly_66 (by decide) ?_
                      refine lv_imul hx hb dX11_unruly_68 ?_
                      refine lv_iload_n hx hb dX11_unruly_69 rfl (lv_at hl 3 rfl) ?_
                      refine lv_iadd hx hb dX11_unruly_70 ?_
                      exact hret ((((x1 * (8 : Int32)) + x2) * (8 : Int32)) + x3)  H locs ls _ hP hD hS h dX11_unruly_71
              exact L22 x2 I22 m22 hB22 _ (0 : Int32) H locs ls hI22 (Nat.lt_succ_self _) hP hD hS (lv_sub hl [1, 2, 3, 0] rfl)
        exact L12 x1 I12 m12 hB12 _ (0 : Int32) H locs ls hI12 (Nat.lt_succ_self _) hP hD hS (lv_sub hl [1, 2, 0] rfl)
  exact L2  I2 m2 hB2 _ (0 : Int32) H locs ls hI2 (Nat.lt_succ_self _) hP hD hS (lv_sub hl [1, 0] rfl)

set_option maxHeartbeats 4000000 in
set_option maxRecDepth 100000 in
theorem c_X11_unruly (l : Launch) (G : va_G) (Y : Nat → ClassId) (tF sz : Nat) (h_t : Nat) (B_t : Nat → Nat) (t_thrown : Int32) (t_n : Int32) (t_modulus : Int32) (t_rows : Int32) (t_strands : Int32) (t_letters : Int32) (t_listedMany : Int32) (t_listN : Int32) (t_listWhat : Int32) (t_table : Nat → Int32) {K : Int32 → Prop} (h : pX11_unruly t_n t_table K) : Met l yX11_unruly wsX11_unruly ({ frames := 1, cells := 0, slots := 0, locals := 22 }) (PcM G Y tF sz (w_X11_unruly Y h_t B_t t_thrown t_n t_modulus t_rows t_strands t_letters t_listedMany t_listN t_listWhat t_table) [.ref h_t]) (va_Qi (fun (r : Int32) (u : Unit) => K r ) (fun u t => BM G Y (va_A (w_X11_unruly Y h_t B_t t_thrown t_n t_modulus t_rows t_strands t_letters t_listedMany t_listN t_listWhat t_table) sz) (w_X11_unruly Y h_t B_t t_thrown t_n t_modulus t_rows t_strands t_letters t_listedMany t_listN t_listWhat t_table) t) (va_A (w_X11_unruly Y h_t B_t t_thrown t_n t_modulus t_rows t_strands t_letters t_listedMany t_listN t_listWhat t_table) sz)) 0 0 (va_A (w_X11_unruly Y h_t B_t t_thrown t_n t_modulus t_rows t_strands t_letters t_listedMany t_listN t_listWhat t_table) sz) := by
  refine Met.ofW (cc := cX11_unruly) (maxL := 4) (ret := (some .int)) (by decide +kernel) rfl ?_
  intro p e s m args below meth c s₁ B hml hv
  obtain ⟨rfl, hsz, hP, hK, hD0, hE⟩ := hv
  have hts := atoms_spec (ws := wsX11_unruly) B.pre
  have hown : s.vm.findClass RX11 = some m.cls := findClass_of_methodNamed B.named
  have hlocks := B.notSynchronized
  subst hsz
  have hD := hD0.self (sz := s.heap.size)
  exact wk_X11_unruly h_t B_t t_thrown t_n t_modulus t_rows t_strands t_letters t_listedMany t_listN t_listWhat t_table B.exec B.bytes hml hown hts hK hE (fun q h => Or.inr h) (Nat.le_refl _) (Nat.le_refl _) (fun r  H locs ls pc hP hD hS hk hd => W.iret (v := r) B.exec B.bytes B.returns (fun t ht hW => ⟨⟨r, (), rfl, hk, by rw [ht]; exact hP, va_K.moved hW.alike hK, hD⟩, hS.F ht⟩) hS.2.2 hd) hP hD h

abbrev w_X11_isRack (Y : Nat → ClassId) (h_t : Nat) (B_t : Nat → Nat) (t_thrown : Int32) (t_n : Int32) (t_modulus : Int32) (t_rows : Int32) (t_strands : Int32) (t_letters : Int32) (t_listedMany : Int32) (t_listN : Int32) (t_listWhat : Int32) (t_table : Nat → Int32) : va_W := [(h_t, .inr (10, [.int t_thrown, .int t_n, .ref (B_t 2), .int t_modulus, .ref (B_t 4), .ref (B_t 5), .ref (B_t 6), .ref (B_t 7), .ref (B_t 8), .ref (B_t 9), .ref (B_t 10), .int t_rows, .ref (B_t 12), .ref (B_t 13), .ref (B_t 14), .ref (B_t 15), .ref (B_t 16), .ref (B_t 17), .ref (B_t 18), .ref (B_t 19), .int t_strands, .int t_letters, .ref (B_t 22), .ref (B_t 23), .ref (B_t 24), .ref (B_t 25), .int t_listedMany, .int t_listN, .int t_listWhat])), ((B_t 2), .inl (Y 0, 64, .inl t_table))]

set_option maxHeartbeats 4000000 in
set_option maxRecDepth 100000 in
theorem wk_X11_isRack {p : Program} {l : Launch} {e : Env} {R : Room} {s : State} {m : MethodId} {args : Array Value} {below : List Frame} {meth : Method} {c : Code} {Q : State → Prop} {G : va_G} {Y : Nat → ClassId} {tF : Nat} {A : Nat → Prop} (h_t : Nat) (B_t : Nat → Nat) (t_thrown : Int32) (t_n : Int32) (t_modulus : Int32) (t_rows : Int32) (t_strands : Int32) (t_letters : Int32) (t_listedMany : Int32) (t_listN : Int32) (t_listWhat : Int32) (t_table : Nat → Int32) {K : Int32 → Prop} (hx : p.tables.exec = Jvm.exec) (hb : c.code = cX11_isRack) (hml : c.maxLocals = 1) (hown : s.vm.findClass RX11 = some m.cls) (hts : ∀ w ∈ wsX11_isRack, w.before args s = true) (hK : va_K G vwCl (tyL Y) s) (hE : Ev A tF s) (hA : ∀ q, s.heap.size ≤ q → A q) (hRf : 2 ≤ R.frames) (hRl : 45 ≤ R.locals) (hret : ∀ (r : Int32)  (H : Heap) (locs : List Loc) (ls : Array Slot) (pc : Nat), va_P G vwCl (w_X11_isRack Y h_t B_t t_thrown t_n t_modulus t_rows t_strands t_letters t_listedMany t_listN t_listWhat t_table) H → va_D A (w_X11_isRack Y h_t B_t t_thrown t_n t_modulus t_rows t_strands t_letters t_listedMany t_listN t_listWhat t_table) → va_S A s.heap H locs → zb r → K r → decode cX11_isRack pc = .ok (.ireturn, 1) → W p l e R s m args below meth c H locs 0 0 Q (F0 m pc ls [.int r])) (hP : va_P G vwCl (w_X11_isRack Y h_t B_t t_thrown t_n t_modulus t_rows t_strands t_letters t_listedMany t_listN t_listWhat t_table) s.heap) (hD : va_D A (w_X11_isRack Y h_t B_t t_thrown t_n t_modulus t_rows t_strands t_letters t_listedMany t_listN t_listWhat t_table)) (h : pX11_isRack t_n t_table K) : W p l e R s m args below meth c s.heap [] 0 0 Q (entryFrame m ([.ref h_t] : List Value).toArray 1) := by
  have hl := lv_entry ([.ref h_t]) (n := 1) (Nat.le_of_ble_eq_true rfl)
  rw [lg_entry_eq]
  generalize (lg_sl ([.ref h_t]) ++ List.replicate (1 - (lg_sl ([.ref h_t])).length) Slot.unset).toArray = ls at hl ⊢
  have hl : lv_has ls 1 [(0, .ref h_t)] := hl
  generalize hH0 : s.heap = H at hP ⊢
  have hS : va_S A s.heap H [] := by rw [← hH0]; exact va_S.rf
  clear hH0
  generalize ([] : List Loc) = locs at hS ⊢
  have J18 : ∀  (H : Heap) (locs : List Loc) (ls : Array Slot), pX11_isRack_18 t_n t_table K → va_P G vwCl (w_X11_isRack Y h_t B_t t_thrown t_n t_modulus t_rows t_strands t_letters t_listedMany t_listN t_listWhat t_table) H → va_D A (w_X11_isRack Y h_t B_t t_thrown t_n t_modulus t_rows t_strands t_letters t_listedMany t_listN t_listWhat t_table) → va_S A s.heap H locs → lv_has ls 1 [] → W p l e R s m args below meth c H locs 0 0 Q (F0 m 18 ls []) := by
    intro  H locs ls h hP hD hS hl
    refine lv_iconst (v := 0) hx hb dX11_isRack_18 (by decide) ?_
    obtain ⟨hz, h⟩ := h
    exact hret (0 : Int32)  H locs ls _ hP hD hS hz h dX11_isRack_19
  refine lv_aload_n hx hb dX11_isRack_0 rfl (lv_at hl 0 rfl) ?_
  refine mc_iV ⟨hx, hb, hml, hown, hts⟩ hK hE hA hP hD hS (c_X11_unevenRow l G Y tF H.size h_t B_t t_thrown t_n t_modulus t_rows t_strands t_letters t_listedMany t_listN t_listWhat t_table h) (cwV 0 hts gX11_isRack_X11_unevenRow rfl rfl rfl (by decide +kernel) ⟨Nat.le_trans (by decide) hRf, Nat.le_trans (by decide) hRl⟩) (fun u => (w_X11_isRack Y h_t B_t t_thrown t_n t_modulus t_rows t_strands t_letters t_listedMany t_listN t_listWhat t_table)) [0, 1] [] [0, 1] rfl rfl rfl rfl (by decide) (fun _ => rfl) rfl 0 10 rfl rfl rfl rfl hl.1 rfl (Nat.le_of_ble_eq_true rfl) dX11_isRack_1 (fun r1 u H locs h hP hD hS => ?_)
  try dsimp only at h
  have hP : va_P G vwCl (w_X11_isRack Y h_t B_t t_thrown t_n t_modulus t_rows t_strands t_letters t_listedMany t_listN t_listWhat t_table) H := hP
  have hD : va_D A (w_X11_isRack Y h_t B_t t_thrown t_n t_modulus t_rows t_strands t_letters t_listedMany t_listN t_listWhat t_table) := hD
  obtain ⟨ht, hf⟩ := h
  refine lv_if_ge (tgt := 18) hx hb dX11_isRack_4 (by decide) (fun c9 => ?_) (fun c9 => ?_)
  · have h := ht c9
    exact J18  H locs ls h hP hD hS (lv_sub hl [] rfl)
  · have h := hf c9
    refine lv_aload_n hx hb dX11_isRack_7 rfl (lv_at hl 0 rfl) ?_
    refine mc_iV ⟨hx, hb, hml, hown, hts⟩ hK hE hA hP hD hS (c_X11_unruly l G Y tF H.size h_t B_t t_thrown t_n t_modulus t_rows t_strands t_letters t_listedMany t_listN t_listWhat t_table h) (cwV 0 hts gX11_isRack_X11_unruly rfl rfl rfl (by decide +kernel) ⟨Nat.le_trans (by decide) hRf, Nat.le_trans (by decide) hRl⟩) (fun u => (w_X11_isRack Y h_t B_t t_thrown t_n t_modulus t_rows t_strands t_letters t_listedMany t_listN t_listWhat t_table)) [0, 1] [] [0, 1] rfl rfl rfl rfl (by decide) (fun _ => rfl) rfl 0 10 rfl rfl rfl rfl hl.1 rfl (Nat.le_of_ble_eq_true rfl) dX11_isRack_8 (fun r8 u H locs h hP hD hS => ?_)
    try dsimp only at h
    have hP : va_P G vwCl (w_X11_isRack Y h_t B_t t_thrown t_n t_modulus t_rows t_strands t_letters t_listedMany t_listN t_listWhat t_table) H := hP
    have hD : va_D A (w_X11_isRack Y h_t B_t t_thrown t_n t_modulus t_rows t_strands t_letters t_listedMany t_listN t_listWhat t_table) := hD
    obtain ⟨ht, hf⟩ := h
    refine lv_if_ge (tgt := 18) hx hb dX11_isRack_11 (by decide) (fun c9 => ?_) (fun c9 => ?_)
    · have h := ht c9
      exact J18  H locs ls h hP hD hS (lv_sub hl [] rfl)
    · have h := hf c9
      refine lv_iconst (v := 1) hx hb dX11_isRack_14 (by decide) ?_
      refine lv_goto (tgt := 19) hx hb dX11_isRack_15 (by decide) ?_
      obtain ⟨hz, h⟩ := h
      exact hret (1 : Int32)  H locs ls _ hP hD hS hz h dX11_isRack_19

set_option maxHeartbeats 4000000 in
set_option maxRecDepth 100000 in
theorem c_X11_isRack (l : Launch) (G : va_G) (Y : Nat → ClassId) (tF sz : Nat) (h_t : Nat) (B_t : Nat → Nat) (t_thrown : Int32) (t_n : Int32) (t_modulus : Int32) (t_rows : Int32) (t_strands : Int32) (t_letters : Int32) (t_listedMany : Int32) (t_listN : Int32) (t_listWhat : Int32) (t_table : Nat → Int32) {K : Int32 → Prop} (h : pX11_isRack t_n t_table K) : Met l yX11_isRack wsX11_isRack ({ frames := 2, cells := 0, slots := 0, locals := 45 }) (PcM G Y tF sz (w_X11_isRack Y h_t B_t t_thrown t_n t_modulus t_rows t_strands t_letters t_listedMany t_listN t_listWhat t_table) [.ref h_t]) (va_Qi (fun (r : Int32) (u : Unit) => K r ) (fun u t => BM G Y (va_A (w_X11_isRack Y h_t B_t t_thrown t_n t_modulus t_rows t_strands t_letters t_listedMany t_listN t_listWhat t_table) sz) (w_X11_isRack Y h_t B_t t_thrown t_n t_modulus t_rows t_strands t_letters t_listedMany t_listN t_listWhat t_table) t) (va_A (w_X11_isRack Y h_t B_t t_thrown t_n t_modulus t_rows t_strands t_letters t_listedMany t_listN t_listWhat t_table) sz)) 0 0 (va_A (w_X11_isRack Y h_t B_t t_thrown t_n t_modulus t_rows t_strands t_letters t_listedMany t_listN t_listWhat t_table) sz) := by
  refine Met.ofW (cc := cX11_isRack) (maxL := 1) (ret := (some .boolean)) (by decide +kernel) rfl ?_
  intro p e s m args below meth c s₁ B hml hv
  obtain ⟨rfl, hsz, hP, hK, hD0, hE⟩ := hv
  have hts := atoms_spec (ws := wsX11_isRack) B.pre
  have hown : s.vm.findClass RX11 = some m.cls := findClass_of_methodNamed B.named
  have hlocks := B.notSynchronized
  subst hsz
  have hD := hD0.self (sz := s.heap.size)
  exact wk_X11_isRack h_t B_t t_thrown t_n t_modulus t_rows t_strands t_letters t_listedMany t_listN t_listWhat t_table B.exec B.bytes hml hown hts hK hE (fun q h => Or.inr h) (Nat.le_refl _) (Nat.le_refl _) (fun r  H locs ls pc hP hD hS hz hk hd => W.zret (v := r) B.exec B.bytes B.returns hz.n (fun t ht hW => ⟨⟨r, (), rfl, hk, by rw [ht]; exact hP, va_K.moved hW.alike hK, hD⟩, hS.F ht⟩) hS.2.2 hd) hP hD h

abbrev w_X11_tells (Y : Nat → ClassId) (h_t : Nat) (B_t : Nat → Nat) (t_thrown : Int32) (t_n : Int32) (t_modulus : Int32) (t_rows : Int32) (t_strands : Int32) (t_letters : Int32) (t_listedMany : Int32) (t_listN : Int32) (t_listWhat : Int32) (t_row : Nat → Int32) : va_W := [(h_t, .inr (10, [.int t_thrown, .int t_n, .ref (B_t 2), .int t_modulus, .ref (B_t 4), .ref (B_t 5), .ref (B_t 6), .ref (B_t 7), .ref (B_t 8), .ref (B_t 9), .ref (B_t 10), .int t_rows, .ref (B_t 12), .ref (B_t 13), .ref (B_t 14), .ref (B_t 15), .ref (B_t 16), .ref (B_t 17), .ref (B_t 18), .ref (B_t 19), .int t_strands, .int t_letters, .ref (B_t 22), .ref (B_t 23), .ref (B_t 24), .ref (B_t 25), .int t_listedMany, .int t_listN, .int t_listWhat])), ((B_t 12), .inl (Y 0, 8, .inl t_row))]

set_option maxHeartbeats 4000000 in
set_option maxRecDepth 100000 in
theorem wk_X11_tells {p : Program} {l : Launch} {e : Env} {R : Room} {s : State} {m : MethodId} {args : Array Value} {below : List Frame} {meth : Method} {c : Code} {Q : State → Prop} {G : va_G} {Y : Nat → ClassId} {tF : Nat} {A : Nat → Prop} (h_t : Nat) (B_t : Nat → Nat) (t_thrown : Int32) (t_n : Int32) (t_modulus : Int32) (t_rows : Int32) (t_strands : Int32) (t_letters : Int32) (t_listedMany : Int32) (t_listN : Int32) (t_listWhat : Int32) (t_row : Nat → Int32) (x1 : Int32) {K : Int32 → (Nat → Int32) → Prop} (hx : p.tables.exec = Jvm.exec) (hb : c.code = cX11_tells) (hml : c.maxLocals = 2) (hown : s.vm.findClass RX11 = some m.cls) (hts : ∀ w ∈ wsX11_tells, w.before args s = true) (hK : va_K G vwCl (tyL Y) s) (hE : Ev A tF s) (hA : ∀ q, s.heap.size ≤ q → A q) (hRf : 0 ≤ R.frames) (hRl : 0 ≤ R.locals) (hret : ∀ (t_rows : Int32) (t_row : Nat → Int32) (H : Heap) (locs : List Loc) (ls : Array Slot) (pc : Nat), va_P G vwCl (w_X11_tells Y h_t B_t t_thrown t_n t_modulus t_rows t_strands t_letters t_listedMany t_listN t_listWhat t_row) H → va_D A (w_X11_tells Y h_t B_t t_thrown t_n t_modulus t_rows t_strands t_letters t_listedMany t_listN t_listWhat t_row) → va_S A s.heap H locs → K t_rows t_row → decode cX11_tells pc = .ok (.return_, 1) → W p l e R s m args below meth c H locs 0 0 Q (F0 m pc ls [])) (hP : va_P G vwCl (w_X11_tells Y h_t B_t t_thrown t_n t_modulus t_rows t_strands t_letters t_listedMany t_listN t_listWhat t_row) s.heap) (hD : va_D A (w_X11_tells Y h_t B_t t_thrown t_n t_modulus t_rows t_strands t_letters t_listedMany t_listN t_listWhat t_row)) (h : pX11_tells t_rows t_row x1 K) : W p l e R s m args below meth c s.heap [] 0 0 Q (entryFrame m ([.ref h_t, .int x1] : List Value).toArray 2) := by
  have inX11 : ∀ w ∈ u_ws RX11 TX11 29, w ∈ wsX11_tells := by decide +kernel
  have hf144 := hts (.fieldLink RX11 144 "RackBenchModel" "rows" "I") (by decide +kernel)
  have hf41 := hts (.fieldLink RX11 41 "RackBenchModel" "row" "[I") (by decide +kernel)
  have hl := lv_entry ([.ref h_t, .int x1]) (n := 2) (Nat.le_of_ble_eq_true rfl)
  rw [lg_entry_eq]
  generalize (lg_sl ([.ref h_t, .int x1]) ++ List.replicate (2 - (lg_sl ([.ref h_t, .int x1])).length) Slot.unset).toArray = ls at hl ⊢
  have hl : lv_has ls 2 [(0, .ref h_t), (1, .int x1)] := hl
  generalize hH0 : s.heap = H at hP ⊢
  have hS : va_S A s.heap H [] := by rw [← hH0]; exact va_S.rf
  clear hH0
  generalize ([] : List Loc) = locs at hS ⊢
  refine lv_aload_n hx hb dX11_tells_0 rfl (lv_at hl 0 rfl) ?_
  refine lv_iconst (v := 3) hx hb dX11_tells_1 (by decide) ?_
  refine va_put (D := G) (ci := 10) (v := .int (3 : Int32)) (ty := .int) (C := RX11) (T := TX11) (N := 29) hx hb hts inX11 tyX11 tyX11_ok nmX11 hown hK hP hD hS 0 rfl rfl 11 (by decide) hf144 (fun _ h9 => h9) rfl (by decide +kernel) rfl rfl (Nat.le_of_ble_eq_true rfl) dX11_tells_2 (fun H locs hP hD hS => ?_)
  have hP : va_P G vwCl (w_X11_tells Y h_t B_t t_thrown t_n t_modulus (3 : Int32) t_strands t_letters t_listedMany t_listN t_listWhat t_row) H := hP
  have hD : va_D A (w_X11_tells Y h_t B_t t_thrown t_n t_modulus (3 : Int32) t_strands t_letters t_listedMany t_listN t_listWhat t_row) := hD
  refine lv_aload_n hx hb dX11_tells_5 rfl (lv_at hl 0 rfl) ?_
  refine va_get (D := G) (ci := 10) (v := .ref (B_t 12)) (C := RX11) (T := TX11) (N := 29) hx hb hts inX11 hown hK hP 0 rfl rfl 12 (by decide) hf41 (fun _ h9 => h9) rfl dX11_tells_6 ?_
  refine lv_iconst (v := 0) hx hb dX11_tells_9 (by decide) ?_
  refine lv_iload_n hx hb dX11_tells_10 rfl (lv_at hl 1 rfl) ?_
  refine lv_bipush (v := 64) hx hb dX11_tells_11 (by decide) ?_
  obtain ⟨hne, h⟩ := h
  refine lv_idiv hx hb dX11_tells_13 hne ?_
  obtain ⟨hin, h⟩ := h
  refine va_iast hx hb hK hP hD hS 1 0 rfl rfl hin dX11_tells_14 (fun H locs hP hD hS => ?_)
  have hP : va_P G vwCl (w_X11_tells Y h_t B_t t_thrown t_n t_modulus (3 : Int32) t_strands t_letters t_listedMany t_listN t_listWhat (upd t_row (Int32.toNatClampNeg (0 : Int32)) (x1 / (64 : Int32)))) H := hP
  have hD : va_D A (w_X11_tells Y h_t B_t t_thrown t_n t_modulus (3 : Int32) t_strands t_letters t_listedMany t_listN t_listWhat (upd t_row (Int32.toNatClampNeg (0 : Int32)) (x1 / (64 : Int32)))) := hD
  refine lv_aload_n hx hb dX11_tells_15 rfl (lv_at hl 0 rfl) ?_
  refine va_get (D := G) (ci := 10) (v := .ref (B_t 12)) (C := RX11) (T := TX11) (N := 29) hx hb hts inX11 hown hK hP 0 rfl rfl 12 (by decide) hf41 (fun _ h9 => h9) rfl dX11_tells_16 ?_
  refine lv_iconst (v := 1) hx hb dX11_tells_19 (by decide) ?_
  refine lv_iload_n hx hb dX11_tells_20 rfl (lv_at hl 1 rfl) ?_
  refine lv_bipush (v := 8) hx hb dX11_tells_21 (by decide) ?_
  obtain ⟨hne, h⟩ := h
  refine lv_idiv hx hb dX11_tells_23 hne ?_
  refine lv_bipush (v := 8) hx hb dX11_tells_24 (by decide) ?_
  obtain ⟨hne, h⟩ := h
  refine lv_irem hx hb dX11_tells_26 hne ?_
  obtain ⟨hin, h⟩ := h
  refine va_iast hx hb hK hP hD hS 1 0 rfl rfl hin dX11_tells_27 (fun H locs hP hD hS => ?_)
  have hP : va_P G vwCl (w_X11_tells Y h_t B_t t_thrown t_n t_modulus (3 : Int32) t_strands t_letters t_listedMany t_listN t_listWhat (upd (upd t_row (Int32.toNatClampNeg (0 : Int32)) (x1 / (64 : Int32))) (Int32.toNatClampNeg (1 : Int32)) ((x1 / (8 : Int32)) - (x1 / (8 : Int32)) / (8 : Int32) * (8 : Int32)))) H := hP
  have hD : va_D A (w_X11_tells Y h_t B_t t_thrown t_n t_modulus (3 : Int32) t_strands t_letters t_listedMany t_listN t_listWhat (upd (upd t_row (Int32.toNatClampNeg (0 : Int32)) (x1 / (64 : Int32))) (Int32.toNatClampNeg (1 : Int32)) ((x1 / (8 : Int32)) - (x1 / (8 : Int32)) / (8 : Int32) * (8 : Int32)))) := hD
  refine lv_aload_n hx hb dX11_tells_28 rfl (lv_at hl 0 rfl) ?_
  refine va_get (D := G) (ci := 10) (v := .ref (B_t 12)) (C := RX11) (T := TX11) (N := 29) hx hb hts inX11 hown hK hP 0 rfl rfl 12 (by decide) hf41 (fun _ h9 => h9) rfl dX11_tells_29 ?_
  refine lv_iconst (v := 2) hx hb dX11_tells_32 (by decide) ?_
  refine lv_iload_n hx hb dX11_tells_33 rfl (lv_at hl 1 rfl) ?_
  refine lv_bipush (v := 8) hx hb dX11_tells_34 (by decide) ?_
  obtain ⟨hne, h⟩ := h
  refine lv_irem hx hb dX11_tells_36 hne ?_
  obtain ⟨hin, h⟩ := h
  refine va_iast hx hb hK hP hD hS 1 0 rfl rfl hin dX11_tells_37 (fun H locs hP hD hS => ?_)
  have hP : va_P G vwCl (w_X11_tells Y h_t B_t t_thrown t_n t_modulus (3 : Int32) t_strands t_letters t_listedMany t_listN t_listWhat (upd (upd (upd t_row (Int32.toNatClampNeg (0 : Int32)) (x1 / (64 : Int32))) (Int32.toNatClampNeg (1 : Int32)) ((x1 / (8 : Int32)) - (x1 / (8 : Int32)) / (8 : Int32) * (8 : Int32))) (Int32.toNatClampNeg (2 : Int32)) (x1 - x1 / (8 : Int32) * (8 : Int32)))) H := hP
  have hD : va_D A (w_X11_tells Y h_t B_t t_thrown t_n t_modulus (3 : Int32) t_strands t_letters t_listedMany t_listN t_listWhat (upd (upd (upd t_row (Int32.toNatClampNeg (0 : Int32)) (x1 / (64 : Int32))) (Int32.toNatClampNeg (1 : Int32)) ((x1 / (8 : Int32)) - (x1 / (8 : Int32)) / (8 : Int32) * (8 : Int32))) (Int32.toNatClampNeg (2 : Int32)) (x1 - x1 / (8 : Int32) * (8 : Int32)))) := hD
  exact hret (3 : Int32) (upd (upd (upd t_row (Int32.toNatClampNeg (0 : Int32)) (x1 / (64 : Int32))) (Int32.toNatClampNeg (1 : Int32)) ((x1 / (8 : Int32)) - (x1 / (8 : Int32)) / (8 : Int32) * (8 : Int32))) (Int32.toNatClampNeg (2 : Int32)) (x1 - x1 / (8 : Int32) * (8 : Int32))) H locs ls _ hP hD hS h dX11_tells_38

set_option maxHeartbeats 4000000 in
set_option maxRecDepth 100000 in
theorem c_X11_tells (l : Launch) (G : va_G) (Y : Nat → ClassId) (tF sz : Nat) (h_t : Nat) (B_t : Nat → Nat) (t_thrown : Int32) (t_n : Int32) (t_modulus : Int32) (t_rows : Int32) (t_strands : Int32) (t_letters : Int32) (t_listedMany : Int32) (t_listN : Int32) (t_listWhat : Int32) (t_row : Nat → Int32) (x1 : Int32) {K : Int32 → (Nat → Int32) → Prop} (h : pX11_tells t_rows t_row x1 K) : Met l yX11_tells wsX11_tells ({ frames := 0, cells := 0, slots := 0, locals := 0 }) (PcM G Y tF sz (w_X11_tells Y h_t B_t t_thrown t_n t_modulus t_rows t_strands t_letters t_listedMany t_listN t_listWhat t_row) [.ref h_t, .int x1]) (va_Qv (fun u : Int32 × (Nat → Int32) => K u.1 u.2) (fun u t => BM G Y (va_A (w_X11_tells Y h_t B_t t_thrown t_n t_modulus t_rows t_strands t_letters t_listedMany t_listN t_listWhat t_row) sz) (w_X11_tells Y h_t B_t t_thrown t_n t_modulus u.1 t_strands t_letters t_listedMany t_listN t_listWhat u.2) t) (va_A (w_X11_tells Y h_t B_t t_thrown t_n t_modulus t_rows t_strands t_letters t_listedMany t_listN t_listWhat t_row) sz)) 0 0 (va_A (w_X11_tells Y h_t B_t t_thrown t_n t_modulus t_rows t_strands t_letters t_listedMany t_listN t_listWhat t_row) sz) := by
  refine Met.ofW (cc := cX11_tells) (maxL := 2) (ret := none) (by decide +kernel) rfl ?_
  intro p e s m args below meth c s₁ B hml hv
  obtain ⟨rfl, hsz, hP, hK, hD0, hE⟩ := hv
  have hts := atoms_spec (ws := wsX11_tells) B.pre
  have hown : s.vm.findClass RX11 = some m.cls := findClass_of_methodNamed B.named
  have hlocks := B.notSynchronized
  subst hsz
  have hD := hD0.self (sz := s.heap.size)
  exact wk_X11_tells h_t B_t t_thrown t_n t_modulus t_rows t_strands t_letters t_listedMany t_listN t_listWhat t_row x1 B.exec B.bytes hml hown hts hK hE (fun q h => Or.inr h) (Nat.le_refl _) (Nat.le_refl _) (fun t_rows t_row H locs ls pc hP hD hS hk hd => W.vret B.exec B.bytes B.returns (fun t ht hW => ⟨⟨(t_rows, t_row), rfl, hk, by rw [ht]; exact hP, va_K.moved hW.alike hK, hD⟩, hS.F ht⟩) hS.2.2 hd) hP hD h

abbrev w_X11_wrong (Y : Nat → ClassId) (h_t : Nat) (B_t : Nat → Nat) (t_thrown : Int32) (t_n : Int32) (t_modulus : Int32) (t_rows : Int32) (t_strands : Int32) (t_letters : Int32) (t_listedMany : Int32) (t_listN : Int32) (t_listWhat : Int32) (t_row : Nat → Int32) (t_table : Nat → Int32) : va_W := [(h_t, .inr (10, [.int t_thrown, .int t_n, .ref (B_t 2), .int t_modulus, .ref (B_t 4), .ref (B_t 5), .ref (B_t 6), .ref (B_t 7), .ref (B_t 8), .ref (B_t 9), .ref (B_t 10), .int t_rows, .ref (B_t 12), .ref (B_t 13), .ref (B_t 14), .ref (B_t 15), .ref (B_t 16), .ref (B_t 17), .ref (B_t 18), .ref (B_t 19), .int t_strands, .int t_letters, .ref (B_t 22), .ref (B_t 23), .ref (B_t 24), .ref (B_t 25), .int t_listedMany, .int t_listN, .int t_listWhat])), ((B_t 12), .inl (Y 0, 8, .inl t_row)), ((B_t 2), .inl (Y 0, 64, .inl t_table))]

set_option maxHeartbeats 4000000 in
set_option maxRecDepth 100000 in
theorem wk_X11_wrong {p : Program} {l : Launch} {e : Env} {R : Room} {s : State} {m : MethodId} {args : Array Value} {below : List Frame} {meth : Method} {c : Code} {Q : State → Prop} {G : va_G} {Y : Nat → ClassId} {tF : Nat} {A : Nat → Prop} (h_t : Nat) (B_t : Nat → Nat) (t_thrown : Int32) (t_n : Int32) (t_modulus : Int32) (t_rows : Int32) (t_strands : Int32) (t_letters : Int32) (t_listedMany : Int32) (t_listN : Int32) (t_listWhat : Int32) (t_row : Nat → Int32) (t_table : Nat → Int32) {K : Int32 → Int32 → Int32 → (Nat → Int32) → Prop} (hx : p.tables.exec = Jvm.exec) (hb : c.code = cX11_wrong) (hml : c.maxLocals = 3) (hown : s.vm.findClass RX11 = some m.cls) (hts : ∀ w ∈ wsX11_wrong, w.before args s = true) (hK : va_K G vwCl (tyL Y) s) (hE : Ev A tF s) (hA : ∀ q, s.heap.size ≤ q → A q) (hRf : 2 ≤ R.frames) (hRl : 45 ≤ R.locals) (hret : ∀ (r : Int32) (t_thrown : Int32) (t_rows : Int32) (t_row : Nat → Int32) (H : Heap) (locs : List Loc) (ls : Array Slot) (pc : Nat), va_P G vwCl (w_X11_wrong Y h_t B_t t_thrown t_n t_modulus t_rows t_strands t_letters t_listedMany t_listN t_listWhat t_row t_table) H → va_D A (w_X11_wrong Y h_t B_t t_thrown t_n t_modulus t_rows t_strands t_letters t_listedMany t_listN t_listWhat t_row t_table) → va_S A s.heap H locs → K r t_thrown t_rows t_row → decode cX11_wrong pc = .ok (.ireturn, 1) → W p l e R s m args below meth c H locs 0 0 Q (F0 m pc ls [.int r])) (hP : va_P G vwCl (w_X11_wrong Y h_t B_t t_thrown t_n t_modulus t_rows t_strands t_letters t_listedMany t_listN t_listWhat t_row t_table) s.heap) (hD : va_D A (w_X11_wrong Y h_t B_t t_thrown t_n t_modulus t_rows t_strands t_letters t_listedMany t_listN t_listWhat t_row t_table)) (h : pX11_wrong t_thrown t_n t_rows t_row t_table K) : W p l e R s m args below meth c s.heap [] 0 0 Q (entryFrame m ([.ref h_t] : List Value).toArray 3) := by
  have inX11 : ∀ w ∈ u_ws RX11 TX11 29, w ∈ wsX11_wrong := by decide +kernel
  have hf144 := hts (.fieldLink RX11 144 "RackBenchModel" "rows" "I") (by decide +kernel)
  have hf41 := hts (.fieldLink RX11 41 "RackBenchModel" "row" "[I") (by decide +kernel)
  have hf83 := hts (.fieldLink RX11 83 "RackBenchModel" "thrown" "I") (by decide +kernel)
  have hl := lv_entry ([.ref h_t]) (n := 3) (Nat.le_of_ble_eq_true rfl)
  rw [lg_entry_eq]
  generalize (lg_sl ([.ref h_t]) ++ List.replicate (3 - (lg_sl ([.ref h_t])).length) Slot.unset).toArray = ls at hl ⊢
  have hl : lv_has ls 3 [(0, .ref h_t)] := hl
  generalize hH0 : s.heap = H at hP ⊢
  have hS : va_S A s.heap H [] := by rw [← hH0]; exact va_S.rf
  clear hH0
  generalize ([] : List Loc) = locs at hS ⊢
  refine lv_aload_n hx hb dX11_wrong_0 rfl (lv_at hl 0 rfl) ?_
  refine lv_iconst (v := 0) hx hb dX11_wrong_1 (by decide) ?_
  refine va_put (D := G) (ci := 10) (v := .int (0 : Int32)) (ty := .int) (C := RX11) (T := TX11) (N := 29) hx hb hts inX11 tyX11 tyX11_ok nmX11 hown hK hP hD hS 0 rfl rfl 0 (by decide) hf83 (fun _ h9 => h9) rfl (by decide +kernel) rfl rfl (Nat.le_of_ble_eq_true rfl) dX11_wrong_2 (fun H locs hP hD hS => ?_)
  have hP : va_P G vwCl (w_X11_wrong Y h_t B_t (0 : Int32) t_n t_modulus t_rows t_strands t_letters t_listedMany t_listN t_listWhat t_row t_table) H := hP
  have hD : va_D A (w_X11_wrong Y h_t B_t (0 : Int32) t_n t_modulus t_rows t_strands t_letters t_listedMany t_listN t_listWhat t_row t_table) := hD
  refine lv_aload_n hx hb dX11_wrong_5 rfl (lv_at hl 0 rfl) ?_
  refine mc_iV ⟨hx, hb, hml, hown, hts⟩ hK hE hA hP hD hS (c_X11_unevenRow l G Y tF H.size h_t B_t (0 : Int32) t_n t_modulus t_rows t_strands t_letters t_listedMany t_listN t_listWhat t_table h) (cwV 0 hts gX11_wrong_X11_unevenRow rfl rfl rfl (by decide +kernel) ⟨Nat.le_trans (by decide) hRf, Nat.le_trans (by decide) hRl⟩) (fun u => (w_X11_wrong Y h_t B_t (0 : Int32) t_n t_modulus t_rows t_strands t_letters t_listedMany t_listN t_listWhat t_row t_table)) [0, 2] [1] [1, 0, 2] rfl rfl rfl rfl (by decide) (fun _ => rfl) rfl 0 10 rfl rfl rfl rfl hl.1 rfl (Nat.le_of_ble_eq_true rfl) dX11_wrong_6 (fun r6 u H locs h hP hD hS => ?_)
  try dsimp only at h
  have hP : va_P G vwCl (w_X11_wrong Y h_t B_t (0 : Int32) t_n t_modulus t_rows t_strands t_letters t_listedMany t_listN t_listWhat t_row t_table) H := hP
  have hD : va_D A (w_X11_wrong Y h_t B_t (0 : Int32) t_n t_modulus t_rows t_strands t_letters t_listedMany t_listN t_listWhat t_row t_table) := hD
  refine lv_istore_n (lv' := [(1, .int r6), (0, .ref h_t)]) hx hb dX11_wrong_9 rfl hl (by decide) rfl (fun ls hl => ?_)
  refine lv_iload_n hx hb dX11_wrong_10 rfl (lv_at hl 0 rfl) ?_
  obtain ⟨ht, hf⟩ := h
  refine lv_if_lt (tgt := 28) hx hb dX11_wrong_11 (by decide) (fun c9 => ?_) (fun c9 => ?_)
  · have h := ht c9
    refine lv_aload_n hx hb dX11_wrong_28 rfl (lv_at hl 1 rfl) ?_
    refine mc_iV ⟨hx, hb, hml, hown, hts⟩ hK hE hA hP hD hS (c_X11_unruly l G Y tF H.size h_t B_t (0 : Int32) t_n t_modulus t_rows t_strands t_letters t_listedMany t_listN t_listWhat t_table h) (cwV 0 hts gX11_wrong_X11_unruly rfl rfl rfl (by decide +kernel) ⟨Nat.le_trans (by decide) hRf, Nat.le_trans (by decide) hRl⟩) (fun u => (w_X11_wrong Y h_t B_t (0 : Int32) t_n t_modulus t_rows t_strands t_letters t_listedMany t_listN t_listWhat t_row t_table)) [0, 2] [1] [1, 0, 2] rfl rfl rfl rfl (by decide) (fun _ => rfl) rfl 0 10 rfl rfl rfl rfl hl.1 rfl (Nat.le_of_ble_eq_true rfl) dX11_wrong_29 (fun r29 u H locs h hP hD hS => ?_)
    try dsimp only at h
    have hP : va_P G vwCl (w_X11_wrong Y h_t B_t (0 : Int32) t_n t_modulus t_rows t_strands t_letters t_listedMany t_listN t_listWhat t_row t_table) H := hP
    have hD : va_D A (w_X11_wrong Y h_t B_t (0 : Int32) t_n t_modulus t_rows t_strands t_letters t_listedMany t_listN t_listWhat t_row t_table) := hD
    refine lv_istore_n (lv' := [(2, .int r29), (1, .int r6), (0, .ref h_t)]) hx hb dX11_wrong_32 rfl hl (by decide) rfl (fun ls hl => ?_)
    refine lv_iload_n hx hb dX11_wrong_33 rfl (lv_at hl 0 rfl) ?_
    obtain ⟨ht, hf⟩ := h
    refine lv_if_lt (tgt := 44) hx hb dX11_wrong_34 (by decide) (fun c9 => ?_) (fun c9 => ?_)
    · have h := ht c9
      refine lv_iconst (v := 0) hx hb dX11_wrong_44 (by decide) ?_
      exact hret (0 : Int32) (0 : Int32) t_rows t_row H locs ls _ hP hD hS h dX11_wrong_45
    · have h := hf c9
      refine lv_aload_n hx hb dX11_wrong_37 rfl (lv_at hl 2 rfl) ?_
      refine lv_iload_n hx hb dX11_wrong_38 rfl (lv_at hl 0 rfl) ?_
      refine mc_vV ⟨hx, hb, hml, hown, hts⟩ hK hE hA hP hD hS (c_X11_tells l G Y tF H.size h_t B_t (0 : Int32) t_n t_modulus t_rows t_strands t_letters t_listedMany t_listN t_listWhat t_row r29 h) (cwV 1 hts gX11_wrong_X11_tells rfl rfl rfl (by decide +kernel) ⟨Nat.le_trans (by decide) hRf, Nat.le_trans (by decide) hRl⟩) (fun u => (w_X11_wrong Y h_t B_t (0 : Int32) t_n t_modulus u.1 t_strands t_letters t_listedMany t_listN t_listWhat u.2 t_table)) [0, 1] [2] [1, 2, 0] rfl rfl rfl rfl (by decide) (fun _ => rfl) rfl 0 10 rfl rfl rfl rfl hl.1 rfl (Nat.le_of_ble_eq_true rfl) dX11_wrong_39 (fun u H locs h hP hD hS => ?_)
      obtain ⟨t_rows_39, t_row_39⟩ := u
      try dsimp only at h
      have hP : va_P G vwCl (w_X11_wrong Y h_t B_t (0 : Int32) t_n t_modulus t_rows_39 t_strands t_letters t_listedMany t_listN t_listWhat t_row_39 t_table) H := hP
      have hD : va_D A (w_X11_wrong Y h_t B_t (0 : Int32) t_n t_modulus t_rows_39 t_strands t_letters t_listedMany t_listN t_listWhat t_row_39 t_table) := hD
      refine lv_iconst (v := 2) hx hb dX11_wrong_42 (by decide) ?_
      exact hret (2 : Int32) (0 : Int32) t_rows_39 t_row_39 H locs ls _ hP hD hS h dX11_wrong_43
  · have h := hf c9
    refine lv_aload_n hx hb dX11_wrong_14 rfl (lv_at hl 1 rfl) ?_
    refine lv_iconst (v := 1) hx hb dX11_wrong_15 (by decide) ?_
    refine va_put (D := G) (ci := 10) (v := .int (1 : Int32)) (ty := .int) (C := RX11) (T := TX11) (N := 29) hx hb hts inX11 tyX11 tyX11_ok nmX11 hown hK hP hD hS 0 rfl rfl 11 (by decide) hf144 (fun _ h9 => h9) rfl (by decide +kernel) rfl rfl (Nat.le_of_ble_eq_true rfl) dX11_wrong_16 (fun H locs hP hD hS => ?_)
    have hP : va_P G vwCl (w_X11_wrong Y h_t B_t (0 : Int32) t_n t_modulus (1 : Int32) t_strands t_letters t_listedMany t_listN t_listWhat t_row t_table) H := hP
    have hD : va_D A (w_X11_wrong Y h_t B_t (0 : Int32) t_n t_modulus (1 : Int32) t_strands t_letters t_listedMany t_listN t_listWhat t_row t_table) := hD
    refine lv_aload_n hx hb dX11_wrong_19 rfl (lv_at hl 1 rfl) ?_
    refine va_get (D := G) (ci := 10) (v := .ref (B_t 12)) (C := RX11) (T := TX11) (N := 29) hx hb hts inX11 hown hK hP 0 rfl rfl 12 (by decide) hf41 (fun _ h9 => h9) rfl dX11_wrong_20 ?_
    refine lv_iconst (v := 0) hx hb dX11_wrong_23 (by decide) ?_
    refine lv_iload_n hx hb dX11_wrong_24 rfl (lv_at hl 0 rfl) ?_
    obtain ⟨hin, h⟩ := h
    refine va_iast hx hb hK hP hD hS 1 0 rfl rfl hin dX11_wrong_25 (fun H locs hP hD hS => ?_)
    have hP : va_P G vwCl (w_X11_wrong Y h_t B_t (0 : Int32) t_n t_modulus (1 : Int32) t_strands t_letters t_listedMany t_listN t_listWhat (upd t_row (Int32.toNatClampNeg (0 : Int32)) r6) t_table) H := hP
    have hD : va_D A (w_X11_wrong Y h_t B_t (0 : Int32) t_n t_modulus (1 : Int32) t_strands t_letters t_listedMany t_listN t_listWhat (upd t_row (Int32.toNatClampNeg (0 : Int32)) r6) t_table) := hD
    refine lv_iconst (v := 1) hx hb dX11_wrong_26 (by decide) ?_
    exact hret (1 : Int32) (0 : Int32) (1 : Int32) (upd t_row (Int32.toNatClampNeg (0 : Int32)) r6) H locs ls _ hP hD hS h dX11_wrong_27

set_option maxHeartbeats 4000000 in
set_option maxRecDepth 100000 in
theorem c_X11_wrong (l : Launch) (G : va_G) (Y : Nat → ClassId) (tF sz : Nat) (h_t : Nat) (B_t : Nat → Nat) (t_thrown : Int32) (t_n : Int32) (t_modulus : Int32) (t_rows : Int32) (t_strands : Int32) (t_letters : Int32) (t_listedMany : Int32) (t_listN : Int32) (t_listWhat : Int32) (t_row : Nat → Int32) (t_table : Nat → Int32) {K : Int32 → Int32 → Int32 → (Nat → Int32) → Prop} (h : pX11_wrong t_thrown t_n t_rows t_row t_table K) : Met l yX11_wrong wsX11_wrong ({ frames := 2, cells := 0, slots := 0, locals := 45 }) (PcM G Y tF sz (w_X11_wrong Y h_t B_t t_thrown t_n t_modulus t_rows t_strands t_letters t_listedMany t_listN t_listWhat t_row t_table) [.ref h_t]) (va_Qi (fun (r : Int32) (u : Int32 × Int32 × (Nat → Int32)) => K r u.1 u.2.1 u.2.2) (fun u t => BM G Y (va_A (w_X11_wrong Y h_t B_t t_thrown t_n t_modulus t_rows t_strands t_letters t_listedMany t_listN t_listWhat t_row t_table) sz) (w_X11_wrong Y h_t B_t u.1 t_n t_modulus u.2.1 t_strands t_letters t_listedMany t_listN t_listWhat u.2.2 t_table) t) (va_A (w_X11_wrong Y h_t B_t t_thrown t_n t_modulus t_rows t_strands t_letters t_listedMany t_listN t_listWhat t_row t_table) sz)) 0 0 (va_A (w_X11_wrong Y h_t B_t t_thrown t_n t_modulus t_rows t_strands t_letters t_listedMany t_listN t_listWhat t_row t_table) sz) := by
  refine Met.ofW (cc := cX11_wrong) (maxL := 3) (ret := (some .int)) (by decide +kernel) rfl ?_
  intro p e s m args below meth c s₁ B hml hv
  obtain ⟨rfl, hsz, hP, hK, hD0, hE⟩ := hv
  have hts := atoms_spec (ws := wsX11_wrong) B.pre
  have hown : s.vm.findClass RX11 = some m.cls := findClass_of_methodNamed B.named
  have hlocks := B.notSynchronized
  subst hsz
  have hD := hD0.self (sz := s.heap.size)
  exact wk_X11_wrong h_t B_t t_thrown t_n t_modulus t_rows t_strands t_letters t_listedMany t_listN t_listWhat t_row t_table B.exec B.bytes hml hown hts hK hE (fun q h => Or.inr h) (Nat.le_refl _) (Nat.le_refl _) (fun r t_thrown t_rows t_row H locs ls pc hP hD hS hk hd => W.iret (v := r) B.exec B.bytes B.returns (fun t ht hW => ⟨⟨r, (t_thrown, t_rows, t_row), rfl, hk, by rw [ht]; exact hP, va_K.moved hW.alike hK, hD⟩, hS.F ht⟩) hS.2.2 hd) hP hD h
