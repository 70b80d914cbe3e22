abbrev w_X0_add (Y : Nat → ClassId) (h_t : Nat) (B_t : Nat → Nat) (t_width : Int32) (t_length : Int32) (t_word : Nat → Int32) : va_W := [(h_t, .inr (0, [.ref (B_t 0), .ref (B_t 1), .ref (B_t 2), .ref (B_t 3), .int t_width, .int t_length])), ((B_t 0), .inl (Y 0, 24, .inl t_word))]

set_option maxHeartbeats 4000000 in
set_option maxRecDepth 100000 in
theorem wk_X0_add {p : Program} {l : Launch} {e : Env} {R : Room} {s : State} {m : MethodId} {args : Array Value} {below : List Frame} {meth : Method} {c : Code} {Q : State → Prop} {G : va_G} {Y : Nat → ClassId} {tF : Nat} {A : Nat → Prop} (h_t : Nat) (B_t : Nat → Nat) (t_width : Int32) (t_length : Int32) (t_word : Nat → Int32) (x1 : Int32) {K : Int32 → (Nat → Int32) → Prop} (hx : p.tables.exec = Jvm.exec) (hb : c.code = cX0_add) (hml : c.maxLocals = 2) (hown : s.vm.findClass RX0 = some m.cls) (hts : ∀ w ∈ wsX0_add, w.before args s = true) (hK : va_K G vwCl (tyL Y) s) (hE : Ev A tF s) (hA : ∀ q, s.heap.size ≤ q → A q) (hRf : 0 ≤ R.frames) (hRl : 0 ≤ R.locals) (hret : ∀ (t_length : Int32) (t_word : Nat → Int32) (H : Heap) (locs : List Loc) (ls : Array Slot) (pc : Nat), va_P G vwCl (w_X0_add Y h_t B_t t_width t_length t_word) H → va_D A (w_X0_add Y h_t B_t t_width t_length t_word) → va_S A s.heap H locs → K t_length t_word → decode cX0_add pc = .ok (.return_, 1) → W p l e R s m args below meth c H locs 0 0 Q (F0 m pc ls [])) (hP : va_P G vwCl (w_X0_add Y h_t B_t t_width t_length t_word) s.heap) (hD : va_D A (w_X0_add Y h_t B_t t_width t_length t_word)) (h : pX0_add t_length t_word x1 K) : W p l e R s m args below meth c s.heap [] 0 0 Q (entryFrame m ([.ref h_t, .int x1] : List Value).toArray 2) := by
  have inX0 : ∀ w ∈ u_ws RX0 TX0 6, w ∈ wsX0_add := by decide +kernel
  have hf28 := hts (.fieldLink RX0 28 "RackBench$Braid" "length" "I") (by decide +kernel)
  have hf9 := hts (.fieldLink RX0 9 "RackBench$Braid" "word" "[I") (by decide +kernel)
  have hl := lv_entry ([.ref h_t, .int x1]) (n := 2) (Nat.le_of_ble_eq_true rfl)
  rw [lg_entry_eq]
  generalize (lg_sl ([.ref h_t, .int x1]) ++ List.replicate (2 - (lg_sl ([.ref h_t, .int x1])).length) Slot.unset).toArray = ls at hl ⊢
  have hl : lv_has ls 2 [(0, .ref h_t), (1, .int x1)] := hl
  generalize hH0 : s.heap = H at hP ⊢
  have hS : va_S A s.heap H [] := by rw [← hH0]; exact va_S.rf
  clear hH0
  generalize ([] : List Loc) = locs at hS ⊢
  refine lv_aload_n hx hb dX0_add_0 rfl (lv_at hl 0 rfl) ?_
  refine va_get (D := G) (ci := 0) (v := .int t_length) (C := RX0) (T := TX0) (N := 6) hx hb hts inX0 hown hK hP 0 rfl rfl 5 (by decide) hf28 (fun _ h9 => h9) rfl dX0_add_1 ?_
  refine lv_bipush (v := 24) hx hb dX0_add_4 (by decide) ?_
  obtain ⟨ht, hf⟩ := h
  refine lv_icmp_ge (tgt := 29) hx hb dX0_add_6 (by decide) (fun c9 => ?_) (fun c9 => ?_)
  · have h := ht c9
    exact hret t_length t_word H locs ls _ hP hD hS h dX0_add_29
  · have h := hf c9
    refine lv_aload_n hx hb dX0_add_9 rfl (lv_at hl 0 rfl) ?_
    refine va_get (D := G) (ci := 0) (v := .ref (B_t 0)) (C := RX0) (T := TX0) (N := 6) hx hb hts inX0 hown hK hP 0 rfl rfl 0 (by decide) hf9 (fun _ h9 => h9) rfl dX0_add_10 ?_
    refine lv_aload_n hx hb dX0_add_13 rfl (lv_at hl 0 rfl) ?_
    refine va_get (D := G) (ci := 0) (v := .int t_length) (C := RX0) (T := TX0) (N := 6) hx hb hts inX0 hown hK hP 0 rfl rfl 5 (by decide) hf28 (fun _ h9 => h9) rfl dX0_add_14 ?_
    refine lv_iload_n hx hb dX0_add_17 rfl (lv_at hl 1 rfl) ?_
    obtain ⟨hin, h⟩ := h
    refine va_iast hx hb hK hP hD hS 1 0 rfl rfl hin dX0_add_18 (fun H locs hP hD hS => ?_)
    have hP : va_P G vwCl (w_X0_add Y h_t B_t t_width t_length (upd t_word (Int32.toNatClampNeg t_length) x1)) H := hP
    have hD : va_D A (w_X0_add Y h_t B_t t_width t_length (upd t_word (Int32.toNatClampNeg t_length) x1)) := hD
    refine lv_aload_n hx hb dX0_add_19 rfl (lv_at hl 0 rfl) ?_
    refine lv_dup hx hb dX0_add_20 rfl ?_
    refine va_get (D := G) (ci := 0) (v := .int t_length) (C := RX0) (T := TX0) (N := 6) hx hb hts inX0 hown hK hP 0 rfl rfl 5 (by decide) hf28 (fun _ h9 => h9) rfl dX0_add_21 ?_
    refine lv_iconst (v := 1) hx hb dX0_add_24 (by decide) ?_
    refine lv_iadd hx hb dX0_add_25 ?_
    refine va_put (D := G) (ci := 0) (v := .int (t_length + (1 : Int32))) (ty := .int) (C := RX0) (T := TX0) (N := 6) hx hb hts inX0 tyX0 tyX0_ok nmX0 hown hK hP hD hS 0 rfl rfl 5 (by decide) hf28 (fun _ h9 => h9) rfl (by decide +kernel) rfl rfl (Nat.le_of_ble_eq_true rfl) dX0_add_26 (fun H locs hP hD hS => ?_)
    have hP : va_P G vwCl (w_X0_add Y h_t B_t t_width (t_length + (1 : Int32)) (upd t_word (Int32.toNatClampNeg t_length) x1)) H := hP
    have hD : va_D A (w_X0_add Y h_t B_t t_width (t_length + (1 : Int32)) (upd t_word (Int32.toNatClampNeg t_length) x1)) := hD
    exact hret (t_length + (1 : Int32)) (upd t_word (Int32.toNatClampNeg t_length) x1) H locs ls _ hP hD hS h dX0_add_29

set_option maxHeartbeats 4000000 in
set_option maxRecDepth 100000 in
theorem c_X0_add (l : Launch) (G : va_G) (Y : Nat → ClassId) (tF sz : Nat) (h_t : Nat) (B_t : Nat → Nat) (t_width : Int32) (t_length : Int32) (t_word : Nat → Int32) (x1 : Int32) {K : Int32 → (Nat → Int32) → Prop} (h : pX0_add t_length t_word x1 K) : Met l yX0_add wsX0_add ({ frames := 0, cells := 0, slots := 0, locals := 0 }) (PcM G Y tF sz (w_X0_add Y h_t B_t t_width t_length t_word) [.ref h_t, .int x1]) (va_Qv (fun u : Int32 × (Nat → Int32) => K u.1 u.2) (fun u t => BM G Y (va_A (w_X0_add Y h_t B_t t_width t_length t_word) sz) (w_X0_add Y h_t B_t t_width u.1 u.2) t) (va_A (w_X0_add Y h_t B_t t_width t_length t_word) sz)) 0 0 (va_A (w_X0_add Y h_t B_t t_width t_length t_word) sz) := by
  refine Met.ofW (cc := cX0_add) (maxL := 2) (ret := none) (by decide +kernel) rfl ?_
  intro p e s m args below meth c s₁ B hml hv
  obtain ⟨rfl, hsz, hP, hK, hD0, hE⟩ := hv
  have hts := atoms_spec (ws := wsX0_add) B.pre
  have hown : s.vm.findClass RX0 = some m.cls := findClass_of_methodNamed B.named
  have hlocks := B.notSynchronized
  subst hsz
  have hD := hD0.self (sz := s.heap.size)
  exact wk_X0_add h_t B_t t_width t_length t_word x1 B.exec B.bytes hml hown hts hK hE (fun q h => Or.inr h) (Nat.le_refl _) (Nat.le_refl _) (fun t_length t_word H locs ls pc hP hD hS hk hd => W.vret B.exec B.bytes B.returns (fun t ht hW => ⟨⟨(t_length, t_word), rfl, hk, by rw [ht]; exact hP, va_K.moved hW.alike hK, hD⟩, hS.F ht⟩) hS.2.2 hd) hP hD h

abbrev w_X0_tallied (Y : Nat → ClassId) (h_t : Nat) (B_t : Nat → Nat) (t_width : Int32) (t_length : Int32) (t_tallies : Nat → Int32) : va_W := [(h_t, .inr (0, [.ref (B_t 0), .ref (B_t 1), .ref (B_t 2), .ref (B_t 3), .int t_width, .int t_length])), ((B_t 3), .inl (Y 0, 7, .inl t_tallies))]

set_option maxHeartbeats 4000000 in
set_option maxRecDepth 100000 in
theorem wk_X0_tallied {p : Program} {l : Launch} {e : Env} {R : Room} {s : State} {m : MethodId} {args : Array Value} {below : List Frame} {meth : Method} {c : Code} {Q : State → Prop} {G : va_G} {Y : Nat → ClassId} {tF : Nat} {A : Nat → Prop} (h_t : Nat) (B_t : Nat → Nat) (t_width : Int32) (t_length : Int32) (t_tallies : Nat → Int32) (x1 : Int32) {K : Int32 → Prop} (hx : p.tables.exec = Jvm.exec) (hb : c.code = cX0_tallied) (hml : c.maxLocals = 2) (hown : s.vm.findClass RX0 = some m.cls) (hts : ∀ w ∈ wsX0_tallied, w.before args s = true) (hK : va_K G vwCl (tyL Y) s) (hE : Ev A tF s) (hA : ∀ q, s.heap.size ≤ q → A q) (hRf : 0 ≤ R.frames) (hRl : 0 ≤ R.locals) (hret : ∀ (r : Int32)  (H : Heap) (locs : List Loc) (ls : Array Slot) (pc : Nat), va_P G vwCl (w_X0_tallied Y h_t B_t t_width t_length t_tallies) H → va_D A (w_X0_tallied Y h_t B_t t_width t_length t_tallies) → va_S A s.heap H locs → K r → decode cX0_tallied pc = .ok (.ireturn, 1) → W p l e R s m args below meth c H locs 0 0 Q (F0 m pc ls [.int r])) (hP : va_P G vwCl (w_X0_tallied Y h_t B_t t_width t_length t_tallies) s.heap) (hD : va_D A (w_X0_tallied Y h_t B_t t_width t_length t_tallies)) (h : pX0_tallied t_tallies x1 K) : W p l e R s m args below meth c s.heap [] 0 0 Q (entryFrame m ([.ref h_t, .int x1] : List Value).toArray 2) := by
  have inX0 : ∀ w ∈ u_ws RX0 TX0 6, w ∈ wsX0_tallied := by decide +kernel
  have hf21 := hts (.fieldLink RX0 21 "RackBench$Braid" "tallies" "[I") (by decide +kernel)
  have hl := lv_entry ([.ref h_t, .int x1]) (n := 2) (Nat.le_of_ble_eq_true rfl)
  rw [lg_entry_eq]
  generalize (lg_sl ([.ref h_t, .int x1]) ++ List.replicate (2 - (lg_sl ([.ref h_t, .int x1])).length) Slot.unset).toArray = ls at hl ⊢
  have hl : lv_has ls 2 [(0, .ref h_t), (1, .int x1)] := hl
  generalize hH0 : s.heap = H at hP ⊢
  have hS : va_S A s.heap H [] := by rw [← hH0]; exact va_S.rf
  clear hH0
  generalize ([] : List Loc) = locs at hS ⊢
  refine lv_aload_n hx hb dX0_tallied_0 rfl (lv_at hl 0 rfl) ?_
  refine va_get (D := G) (ci := 0) (v := .ref (B_t 3)) (C := RX0) (T := TX0) (N := 6) hx hb hts inX0 hown hK hP 0 rfl rfl 3 (by decide) hf21 (fun _ h9 => h9) rfl dX0_tallied_1 ?_
  refine lv_iload_n hx hb dX0_tallied_4 rfl (lv_at hl 1 rfl) ?_
  obtain ⟨hin, h⟩ := h
  refine va_iald hx hb hK hP 1 0 rfl rfl hin dX0_tallied_5 ?_
  exact hret (t_tallies (Int32.toNatClampNeg x1))  H locs ls _ hP hD hS h dX0_tallied_6

set_option maxHeartbeats 4000000 in
set_option maxRecDepth 100000 in
theorem c_X0_tallied (l : Launch) (G : va_G) (Y : Nat → ClassId) (tF sz : Nat) (h_t : Nat) (B_t : Nat → Nat) (t_width : Int32) (t_length : Int32) (t_tallies : Nat → Int32) (x1 : Int32) {K : Int32 → Prop} (h : pX0_tallied t_tallies x1 K) : Met l yX0_tallied wsX0_tallied ({ frames := 0, cells := 0, slots := 0, locals := 0 }) (PcM G Y tF sz (w_X0_tallied Y h_t B_t t_width t_length t_tallies) [.ref h_t, .int x1]) (va_Qi (fun (r : Int32) (u : Unit) => K r ) (fun u t => BM G Y (va_A (w_X0_tallied Y h_t B_t t_width t_length t_tallies) sz) (w_X0_tallied Y h_t B_t t_width t_length t_tallies) t) (va_A (w_X0_tallied Y h_t B_t t_width t_length t_tallies) sz)) 0 0 (va_A (w_X0_tallied Y h_t B_t t_width t_length t_tallies) sz) := by
  refine Met.ofW (cc := cX0_tallied) (maxL := 2) (ret := (some .int)) (by decide +kernel) rfl ?_
  intro p e s m args below meth c s₁ B hml hv
  obtain ⟨rfl, hsz, hP, hK, hD0, hE⟩ := hv
  have hts := atoms_spec (ws := wsX0_tallied) B.pre
  have hown : s.vm.findClass RX0 = some m.cls := findClass_of_methodNamed B.named
  have hlocks := B.notSynchronized
  subst hsz
  have hD := hD0.self (sz := s.heap.size)
  exact wk_X0_tallied h_t B_t t_width t_length t_tallies x1 B.exec B.bytes hml hown hts hK hE (fun q h => Or.inr h) (Nat.le_refl _) (Nat.le_refl _) (fun r  H locs ls pc hP hD hS hk hd => W.iret (v := r) B.exec B.bytes B.returns (fun t ht hW => ⟨⟨r, (), rfl, hk, by rw [ht]; exact hP, va_K.moved hW.alike hK, hD⟩, hS.F ht⟩) hS.2.2 hd) hP hD h

abbrev w_X0_spread (Y : Nat → ClassId) (h_t : Nat) (B_t : Nat → Nat) (t_width : Int32) (t_length : Int32) (t_ahead : Nat → Int32) (t_now : Nat → Int32) : va_W := [(h_t, .inr (0, [.ref (B_t 0), .ref (B_t 1), .ref (B_t 2), .ref (B_t 3), .int t_width, .int t_length])), ((B_t 1), .inl (Y 0, 4, .inl t_ahead)), ((B_t 2), .inl (Y 0, 4, .inl t_now))]

set_option maxHeartbeats 4000000 in
set_option maxRecDepth 100000 in
theorem wk_X0_spread {p : Program} {l : Launch} {e : Env} {R : Room} {s : State} {m : MethodId} {args : Array Value} {below : List Frame} {meth : Method} {c : Code} {Q : State → Prop} {G : va_G} {Y : Nat → ClassId} {tF : Nat} {A : Nat → Prop} (h_t : Nat) (B_t : Nat → Nat) (t_width : Int32) (t_length : Int32) (t_ahead : Nat → Int32) (t_now : Nat → Int32) (x1 : Int32) (x2 : Int32) {K : (Nat → Int32) → (Nat → Int32) → Prop} (hx : p.tables.exec = Jvm.exec) (hb : c.code = cX0_spread) (hml : c.maxLocals = 5) (hown : s.vm.findClass RX0 = some m.cls) (hts : ∀ w ∈ wsX0_spread, w.before args s = true) (hK : va_K G vwCl (tyL Y) s) (hE : Ev A tF s) (hA : ∀ q, s.heap.size ≤ q → A q) (hRf : 0 ≤ R.frames) (hRl : 0 ≤ R.locals) (hret : ∀ (t_ahead : Nat → Int32) (t_now : Nat → Int32) (H : Heap) (locs : List Loc) (ls : Array Slot) (pc : Nat), va_P G vwCl (w_X0_spread Y h_t B_t t_width t_length t_ahead t_now) H → va_D A (w_X0_spread Y h_t B_t t_width t_length t_ahead t_now) → va_S A s.heap H locs → K t_ahead t_now → decode cX0_spread pc = .ok (.return_, 1) → W p l e R s m args below meth c H locs 0 0 Q (F0 m pc ls [])) (hP : va_P G vwCl (w_X0_spread Y h_t B_t t_width t_length t_ahead t_now) s.heap) (hD : va_D A (w_X0_spread Y h_t B_t t_width t_length t_ahead t_now)) (h : pX0_spread t_width t_ahead t_now x1 x2 K) : W p l e R s m args below meth c s.heap [] 0 0 Q (entryFrame m ([.ref h_t, .int x1, .int x2] : List Value).toArray 5) := by
  have inX0 : ∀ w ∈ u_ws RX0 TX0 6, w ∈ wsX0_spread := by decide +kernel
  have hf15 := hts (.fieldLink RX0 15 "RackBench$Braid" "ahead" "[I") (by decide +kernel)
  have hf18 := hts (.fieldLink RX0 18 "RackBench$Braid" "now" "[I") (by decide +kernel)
  have hf24 := hts (.fieldLink RX0 24 "RackBench$Braid" "width" "I") (by decide +kernel)
  have hl := lv_entry ([.ref h_t, .int x1, .int x2]) (n := 5) (Nat.le_of_ble_eq_true rfl)
  rw [lg_entry_eq]
  generalize (lg_sl ([.ref h_t, .int x1, .int x2]) ++ List.replicate (5 - (lg_sl ([.ref h_t, .int x1, .int x2])).length) Slot.unset).toArray = ls at hl ⊢
  have hl : lv_has ls 5 [(0, .ref h_t), (1, .int x1), (2, .int x2)] := hl
  generalize hH0 : s.heap = H at hP ⊢
  have hS : va_S A s.heap H [] := by rw [← hH0]; exact va_S.rf
  clear hH0
  generalize ([] : List Loc) = locs at hS ⊢
  refine lv_iload_n hx hb dX0_spread_0 rfl (lv_at hl 1 rfl) ?_
  refine lv_istore_n (lv' := [(3, .int x1), (0, .ref h_t), (1, .int x1), (2, .int x2)]) hx hb dX0_spread_1 rfl hl (by decide) rfl (fun ls hl => ?_)
  refine lv_iconst (v := 0) hx hb dX0_spread_2 (by decide) ?_
  refine lv_istore (lv' := [(4, .int (0 : Int32)), (3, .int x1), (0, .ref h_t), (1, .int x1), (2, .int x2)]) hx hb dX0_spread_3 hl (by decide) rfl (fun ls hl => ?_)
  obtain ⟨I5, m5, hI5, hB5⟩ := h
  have L5 : ∀ (x2 : Int32) (I5 : Int32 → Int32 → (Nat → Int32) → (Nat → Int32) → Prop) (m5 : Int32 → Int32 → (Nat → Int32) → (Nat → Int32) → Nat), (∀ (x3 : Int32) (x4 : Int32) (t_ahead : Nat → Int32) (t_now : Nat → Int32), I5 x3 x4 t_ahead t_now → pX0_spread_5 t_width K x2 x3 x4 t_ahead t_now (fun x3' x4' t_ahead' t_now' => I5 x3' x4' t_ahead' t_now' ∧ m5 x3' x4' t_ahead' t_now' < m5 x3 x4 t_ahead t_now)) → ∀ (n : Nat) (x3 : Int32) (x4 : Int32) (t_ahead : Nat → Int32) (t_now : Nat → Int32) (H : Heap) (locs : List Loc) (ls : Array Slot), I5 x3 x4 t_ahead t_now → m5 x3 x4 t_ahead t_now < n → va_P G vwCl (w_X0_spread Y h_t B_t t_width t_length t_ahead t_now) H → va_D A (w_X0_spread Y h_t B_t t_width t_length t_ahead t_now) → va_S A s.heap H locs → lv_has ls 5 [(0, .ref h_t), (2, .int x2), (3, .int x3), (4, .int x4)] → W p l e R s m args below meth c H locs 0 0 Q (F0 m 5 ls []) := by
    intro x2 I5 m5 hB5 n
    induction n with
    | zero => intro x3 x4 t_ahead t_now H locs ls _ hm; exact absurd hm (Nat.not_lt_zero _)
    | succ n ih =>
      intro x3 x4 t_ahead t_now H locs ls hI hm hP hD hS hl
      obtain ⟨R5, h, rec5⟩ : ∃ R5 : Int32 → Int32 → (Nat → Int32) → (Nat → Int32) → Prop, pX0_spread_5 t_width K x2 x3 x4 t_ahead t_now R5 ∧ ∀ (x3 : Int32) (x4 : Int32) (t_ahead : Nat → Int32) (t_now : Nat → Int32) (H : Heap) (locs : List Loc) (ls : Array Slot), R5 x3 x4 t_ahead t_now → va_P G vwCl (w_X0_spread Y h_t B_t t_width t_length t_ahead t_now) H → va_D A (w_X0_spread Y h_t B_t t_width t_length t_ahead t_now) → va_S A s.heap H locs → lv_has ls 5 [(0, .ref h_t), (2, .int x2), (3, .int x3), (4, .int x4)] → W p l e R s m args below meth c H locs 0 0 Q (F0 m 5 ls []) := ⟨_, hB5 x3 x4 t_ahead t_now hI, fun x3 x4 t_ahead t_now H locs ls hh hP hD hS hl => ih x3 x4 t_ahead t_now H locs ls hh.1 (Nat.lt_of_lt_of_le hh.2 (Nat.le_of_lt_succ hm)) hP hD hS hl⟩
      refine lv_iload hx hb dX0_spread_5 (lv_at hl 3 rfl) ?_
      refine lv_aload_n hx hb dX0_spread_7 rfl (lv_at hl 0 rfl) ?_
      refine va_get (D := G) (ci := 0) (v := .int t_width) (C := RX0) (T := TX0) (N := 6) hx hb hts inX0 hown hK hP 0 rfl rfl 4 (by decide) hf24 (fun _ h9 => h9) rfl dX0_spread_8 ?_
      obtain ⟨ht, hf⟩ := h
      refine lv_icmp_ge (tgt := 48) hx hb dX0_spread_11 (by decide) (fun c9 => ?_) (fun c9 => ?_)
      · have h := ht c9
        exact hret t_ahead t_now H locs ls _ hP hD hS h dX0_spread_48
      · have h := hf c9
        refine lv_aload_n hx hb dX0_spread_14 rfl (lv_at hl 0 rfl) ?_
        refine va_get (D := G) (ci := 0) (v := .ref (B_t 1)) (C := RX0) (T := TX0) (N := 6) hx hb hts inX0 hown hK hP 0 rfl rfl 1 (by decide) hf15 (fun _ h9 => h9) rfl dX0_spread_15 ?_
        refine lv_iload hx hb dX0_spread_18 (lv_at hl 3 rfl) ?_
        refine lv_iload_n hx hb dX0_spread_20 rfl (lv_at hl 2 rfl) ?_
        refine lv_iload_n hx hb dX0_spread_21 rfl (lv_at hl 1 rfl) ?_
        obtain ⟨hne, h⟩ := h
        refine lv_irem hx hb dX0_spread_22 hne ?_
        obtain ⟨hin, h⟩ := h
        refine va_iast hx hb hK hP hD hS 1 0 rfl rfl hin dX0_spread_23 (fun H locs hP hD hS => ?_)
        have hP : va_P G vwCl (w_X0_spread Y h_t B_t t_width t_length (upd t_ahead (Int32.toNatClampNeg x4) (x3 - x3 / x2 * x2)) t_now) H := hP
        have hD : va_D A (w_X0_spread Y h_t B_t t_width t_length (upd t_ahead (Int32.toNatClampNeg x4) (x3 - x3 / x2 * x2)) t_now) := hD
        refine lv_aload_n hx hb dX0_spread_24 rfl (lv_at hl 0 rfl) ?_
        refine va_get (D := G) (ci := 0) (v := .ref (B_t 2)) (C := RX0) (T := TX0) (N := 6) hx hb hts inX0 hown hK hP 0 rfl rfl 2 (by decide) hf18 (fun _ h9 => h9) rfl dX0_spread_25 ?_
        refine lv_iload hx hb dX0_spread_28 (lv_at hl 3 rfl) ?_
        refine lv_aload_n hx hb dX0_spread_30 rfl (lv_at hl 0 rfl) ?_
        refine va_get (D := G) (ci := 0) (v := .ref (B_t 1)) (C := RX0) (T := TX0) (N := 6) hx hb hts inX0 hown hK hP 0 rfl rfl 1 (by decide) hf15 (fun _ h9 => h9) rfl dX0_spread_31 ?_
        refine lv_iload hx hb dX0_spread_34 (lv_at hl 3 rfl) ?_
        obtain ⟨hin, h⟩ := h
        refine va_iald hx hb hK hP 1 0 rfl rfl hin dX0_spread_36 ?_
        obtain ⟨hin, h⟩ := h
        refine va_iast hx hb hK hP hD hS 2 0 rfl rfl hin dX0_spread_37 (fun H locs hP hD hS => ?_)
        have hP : va_P G vwCl (w_X0_spread Y h_t B_t t_width t_length (upd t_ahead (Int32.toNatClampNeg x4) (x3 - x3 / x2 * x2)) (upd t_now (Int32.toNatClampNeg x4) ((upd t_ahead (Int32.toNatClampNeg x4) (x3 - x3 / x2 * x2)) (Int32.toNatClampNeg x4)))) H := hP
        have hD : va_D A (w_X0_spread Y h_t B_t t_width t_length (upd t_ahead (Int32.toNatClampNeg x4) (x3 - x3 / x2 * x2)) (upd t_now (Int32.toNatClampNeg x4) ((upd t_ahead (Int32.toNatClampNeg x4) (x3 - x3 / x2 * x2)) (Int32.toNatClampNeg x4)))) := hD
        refine lv_iload_n hx hb dX0_spread_38 rfl (lv_at hl 2 rfl) ?_
        refine lv_iload_n hx hb dX0_spread_39 rfl (lv_at hl 1 rfl) ?_
        obtain ⟨hne, h⟩ := h
        refine lv_idiv hx hb dX0_spread_40 hne ?_
        refine lv_istore_n (lv' := [(3, .int (x3 / x2)), (0, .ref h_t), (2, .int x2), (4, .int x4)]) hx hb dX0_spread_41 rfl hl (by decide) rfl (fun ls hl => ?_)
        refine lv_iinc (v := (x4 + 1)) (lv' := [(4, .int (x4 + 1)), (3, .int (x3 / x2)), (0, .ref h_t), (2, .int x2)]) hx hb dX0_spread_42 hl (k := 3) rfl rfl (by decide) rfl (fun ls hl => ?_)
        refine lv_goto (tgt := 5) hx hb dX0_spread_45 (by decide) ?_
        exact rec5 (x3 / x2) (x4 + 1) (upd t_ahead (Int32.toNatClampNeg x4) (x3 - x3 / x2 * x2)) (upd t_now (Int32.toNatClampNeg x4) ((upd t_ahead (Int32.toNatClampNeg x4) (x3 - x3 / x2 * x2)) (Int32.toNatClampNeg x4))) H locs ls h hP hD hS (lv_sub hl [2, 3, 1, 0] rfl)
  exact L5 x2 I5 m5 hB5 _ x1 (0 : Int32) t_ahead t_now H locs ls hI5 (Nat.lt_succ_self _) hP hD hS (lv_sub hl [2, 4, 1, 0] rfl)

set_option maxHeartbeats 4000000 in
set_option maxRecDepth 100000 in
theorem c_X0_spread (l : Launch) (G : va_G) (Y : Nat → ClassId) (tF sz : Nat) (h_t : Nat) (B_t : Nat → Nat) (t_width : Int32) (t_length : Int32) (t_ahead : Nat → Int32) (t_now : Nat → Int32) (x1 : Int32) (x2 : Int32) {K : (Nat → Int32) → (Nat → Int32) → Prop} (h : pX0_spread t_width t_ahead t_now x1 x2 K) : Met l yX0_spread wsX0_spread ({ frames := 0, cells := 0, slots := 0, locals := 0 }) (PcM G Y tF sz (w_X0_spread Y h_t B_t t_width t_length t_ahead t_now) [.ref h_t, .int x1, .int x2]) (va_Qv (fun u : (Nat → Int32) × (Nat → Int32) => K u.1 u.2) (fun u t => BM G Y (va_A (w_X0_spread Y h_t B_t t_width t_length t_ahead t_now) sz) (w_X0_spread Y h_t B_t t_width t_length u.1 u.2) t) (va_A (w_X0_spread Y h_t B_t t_width t_length t_ahead t_now) sz)) 0 0 (va_A (w_X0_spread Y h_t B_t t_width t_length t_ahead t_now) sz) := by
  refine Met.ofW (cc := cX0_spread) (maxL := 5) (ret := none) (by decide +kernel) rfl ?_
  intro p e s m args below meth c s₁ B hml hv
  obtain ⟨rfl, hsz, hP, hK, hD0, hE⟩ := hv
  have hts := atoms_spec (ws := wsX0_spread) B.pre
  have hown : s.vm.findClass RX0 = some m.cls := findClass_of_methodNamed B.named
  have hlocks := B.notSynchronized
  subst hsz
  have hD := hD0.self (sz := s.heap.size)
  exact wk_X0_spread h_t B_t t_width t_length t_ahead t_now x1 x2 B.exec B.bytes hml hown hts hK hE (fun q h => Or.inr h) (Nat.le_refl _) (Nat.le_refl _) (fun t_ahead t_now H locs ls pc hP hD hS hk hd => W.vret B.exec B.bytes B.returns (fun t ht hW => ⟨⟨(t_ahead, t_now), rfl, hk, by rw [ht]; exact hP, va_K.moved hW.alike hK, hD⟩, hS.F ht⟩) hS.2.2 hd) hP hD h

abbrev w_X0_cross (Y : Nat → ClassId) (h_t : Nat) (h_p2 : Nat) (h_p3 : Nat) (B_t : Nat → Nat) (B_p2 : Nat → Nat) (B_p3 : Nat → Nat) (t_width : Int32) (t_length : Int32) (t_now : Nat → Int32) (p2_n : Int32) (p2_cells : Nat → Int32) (p3_modulus : Int32) (p3_values : Nat → Int32) : va_W := [(h_t, .inr (0, [.ref (B_t 0), .ref (B_t 1), .ref (B_t 2), .ref (B_t 3), .int t_width, .int t_length])), ((B_t 2), .inl (Y 0, 4, .inl t_now)), (h_p2, .inr (6, [.ref (B_p2 0), .int p2_n])), ((B_p2 0), .inl (Y 0, 64, .inl p2_cells)), (h_p3, .inr (8, [.ref (B_p3 0), .int p3_modulus])), ((B_p3 0), .inl (Y 0, 64, .inl p3_values))]

set_option maxHeartbeats 4000000 in
set_option maxRecDepth 100000 in
theorem wk_X0_cross {p : Program} {l : Launch} {e : Env} {R : Room} {s : State} {m : MethodId} {args : Array Value} {below : List Frame} {meth : Method} {c : Code} {Q : State → Prop} {G : va_G} {Y : Nat → ClassId} {tF : Nat} {A : Nat → Prop} (h_t : Nat) (h_p2 : Nat) (h_p3 : Nat) (B_t : Nat → Nat) (B_p2 : Nat → Nat) (B_p3 : Nat → Nat) (t_width : Int32) (t_length : Int32) (t_now : Nat → Int32) (p2_n : Int32) (p2_cells : Nat → Int32) (p3_modulus : Int32) (p3_values : Nat → Int32) (x1 : Int32) {K : Int32 → (Nat → Int32) → Prop} (hx : p.tables.exec = Jvm.exec) (hb : c.code = cX0_cross) (hml : c.maxLocals = 6) (hown : s.vm.findClass RX0 = some m.cls) (hts : ∀ w ∈ wsX0_cross, w.before args s = true) (hK : va_K G vwCl (tyL Y) s) (hE : Ev A tF s) (hA : ∀ q, s.heap.size ≤ q → A q) (hRf : 1 ≤ R.frames) (hRl : 22 ≤ R.locals) (hret : ∀ (r : Int32) (t_now : Nat → Int32) (H : Heap) (locs : List Loc) (ls : Array Slot) (pc : Nat), va_P G vwCl (w_X0_cross Y h_t h_p2 h_p3 B_t B_p2 B_p3 t_width t_length t_now p2_n p2_cells p3_modulus p3_values) H → va_D A (w_X0_cross Y h_t h_p2 h_p3 B_t B_p2 B_p3 t_width t_length t_now p2_n p2_cells p3_modulus p3_values) → va_S A s.heap H locs → K r t_now → decode cX0_cross pc = .ok (.ireturn, 1) → W p l e R s m args below meth c H locs 0 0 Q (F0 m pc ls [.int r])) (hP : va_P G vwCl (w_X0_cross Y h_t h_p2 h_p3 B_t B_p2 B_p3 t_width t_length t_now p2_n p2_cells p3_modulus p3_values) s.heap) (hD : va_D A (w_X0_cross Y h_t h_p2 h_p3 B_t B_p2 B_p3 t_width t_length t_now p2_n p2_cells p3_modulus p3_values)) (h : pX0_cross t_now p2_cells p3_values x1 K) : W p l e R s m args below meth c s.heap [] 0 0 Q (entryFrame m ([.ref h_t, .int x1, .ref h_p2, .ref h_p3] : List Value).toArray 6) := by
  have inX0 : ∀ w ∈ u_ws RX0 TX0 6, w ∈ wsX0_cross := by decide +kernel
  have hf18 := hts (.fieldLink RX0 18 "RackBench$Braid" "now" "[I") (by decide +kernel)
  have hl := lv_entry ([.ref h_t, .int x1, .ref h_p2, .ref h_p3]) (n := 6) (Nat.le_of_ble_eq_true rfl)
  rw [lg_entry_eq]
  generalize (lg_sl ([.ref h_t, .int x1, .ref h_p2, .ref h_p3]) ++ List.replicate (6 - (lg_sl ([.ref h_t, .int x1, .ref h_p2, .ref h_p3])).length) Slot.unset).toArray = ls at hl ⊢
  have hl : lv_has ls 6 [(0, .ref h_t), (1, .int x1), (2, .ref h_p2), (3, .ref h_p3)] := hl
  generalize hH0 : s.heap = H at hP ⊢
  have hS : va_S A s.heap H [] := by rw [← hH0]; exact va_S.rf
  clear hH0
  generalize ([] : List Loc) = locs at hS ⊢
  refine lv_aload_n hx hb dX0_cross_0 rfl (lv_at hl 0 rfl) ?_
  refine va_get (D := G) (ci := 0) (v := .ref (B_t 2)) (C := RX0) (T := TX0) (N := 6) hx hb hts inX0 hown hK hP 0 rfl rfl 2 (by decide) hf18 (fun _ h9 => h9) rfl dX0_cross_1 ?_
  refine lv_iload_n hx hb dX0_cross_4 rfl (lv_at hl 1 rfl) ?_
  refine lv_iconst (v := 1) hx hb dX0_cross_5 (by decide) ?_
  refine lv_isub hx hb dX0_cross_6 ?_
  obtain ⟨hin, h⟩ := h
  refine va_iald hx hb hK hP 1 0 rfl rfl hin dX0_cross_7 ?_
  refine lv_istore (lv' := [(4, .int (t_now (Int32.toNatClampNeg (x1 - (1 : Int32))))), (0, .ref h_t), (1, .int x1), (2, .ref h_p2), (3, .ref h_p3)]) hx hb dX0_cross_8 hl (by decide) rfl (fun ls hl => ?_)
  refine lv_aload_n hx hb dX0_cross_10 rfl (lv_at hl 1 rfl) ?_
  refine va_get (D := G) (ci := 0) (v := .ref (B_t 2)) (C := RX0) (T := TX0) (N := 6) hx hb hts inX0 hown hK hP 0 rfl rfl 2 (by decide) hf18 (fun _ h9 => h9) rfl dX0_cross_11 ?_
  refine lv_iload_n hx hb dX0_cross_14 rfl (lv_at hl 2 rfl) ?_
  obtain ⟨hin, h⟩ := h
  refine va_iald hx hb hK hP 1 0 rfl rfl hin dX0_cross_15 ?_
  refine lv_istore (lv' := [(5, .int (t_now (Int32.toNatClampNeg x1))), (4, .int (t_now (Int32.toNatClampNeg (x1 - (1 : Int32))))), (0, .ref h_t), (1, .int x1), (2, .ref h_p2), (3, .ref h_p3)]) hx hb dX0_cross_16 hl (by decide) rfl (fun ls hl => ?_)
  refine lv_aload_n hx hb dX0_cross_18 rfl (lv_at hl 2 rfl) ?_
  refine va_get (D := G) (ci := 0) (v := .ref (B_t 2)) (C := RX0) (T := TX0) (N := 6) hx hb hts inX0 hown hK hP 0 rfl rfl 2 (by decide) hf18 (fun _ h9 => h9) rfl dX0_cross_19 ?_
  refine lv_iload_n hx hb dX0_cross_22 rfl (lv_at hl 3 rfl) ?_
  refine lv_iconst (v := 1) hx hb dX0_cross_23 (by decide) ?_
  refine lv_isub hx hb dX0_cross_24 ?_
  refine lv_aload_n hx hb dX0_cross_25 rfl (lv_at hl 4 rfl) ?_
  refine lv_iload hx hb dX0_cross_26 (lv_at hl 1 rfl) ?_
  refine lv_iload hx hb dX0_cross_28 (lv_at hl 0 rfl) ?_
  refine mc_iV ⟨hx, hb, hml, hown, hts⟩ hK hE hA hP hD hS (c_X7_turned l G Y tF H.size h_p2 B_p2 p2_n p2_cells (t_now (Int32.toNatClampNeg (x1 - (1 : Int32)))) (t_now (Int32.toNatClampNeg x1)) h) (cwV 2 hts gX0_cross_X7_turned rfl rfl rfl (by decide +kernel) ⟨Nat.le_trans (by decide) hRf, Nat.le_trans (by decide) hRl⟩) (fun u => (w_X0_cross Y h_t h_p2 h_p3 B_t B_p2 B_p3 t_width t_length t_now p2_n p2_cells p3_modulus p3_values)) [2, 3] [0, 1, 4, 5] [0, 1, 4, 5, 2, 3] rfl rfl rfl rfl (by decide) (fun _ => rfl) rfl 2 6 rfl rfl rfl rfl hl.1 rfl (Nat.le_of_ble_eq_true rfl) dX0_cross_30 (fun r30 u H locs h hP hD hS => ?_)
  try dsimp only at h
  have hP : va_P G vwCl (w_X0_cross Y h_t h_p2 h_p3 B_t B_p2 B_p3 t_width t_length t_now p2_n p2_cells p3_modulus p3_values) H := hP
  have hD : va_D A (w_X0_cross Y h_t h_p2 h_p3 B_t B_p2 B_p3 t_width t_length t_now p2_n p2_cells p3_modulus p3_values) := hD
  obtain ⟨hin, h⟩ := h
  refine va_iast hx hb hK hP hD hS 1 0 rfl rfl hin dX0_cross_33 (fun H locs hP hD hS => ?_)
  have hP : va_P G vwCl (w_X0_cross Y h_t h_p2 h_p3 B_t B_p2 B_p3 t_width t_length (upd t_now (Int32.toNatClampNeg (x1 - (1 : Int32))) r30) p2_n p2_cells p3_modulus p3_values) H := hP
  have hD : va_D A (w_X0_cross Y h_t h_p2 h_p3 B_t B_p2 B_p3 t_width t_length (upd t_now (Int32.toNatClampNeg (x1 - (1 : Int32))) r30) p2_n p2_cells p3_modulus p3_values) := hD
  refine lv_aload_n hx hb dX0_cross_34 rfl (lv_at hl 2 rfl) ?_
  refine va_get (D := G) (ci := 0) (v := .ref (B_t 2)) (C := RX0) (T := TX0) (N := 6) hx hb hts inX0 hown hK hP 0 rfl rfl 2 (by decide) hf18 (fun _ h9 => h9) rfl dX0_cross_35 ?_
  refine lv_iload_n hx hb dX0_cross_38 rfl (lv_at hl 3 rfl) ?_
  refine lv_iload hx hb dX0_cross_39 (lv_at hl 1 rfl) ?_
  obtain ⟨hin, h⟩ := h
  refine va_iast hx hb hK hP hD hS 1 0 rfl rfl hin dX0_cross_41 (fun H locs hP hD hS => ?_)
  have hP : va_P G vwCl (w_X0_cross Y h_t h_p2 h_p3 B_t B_p2 B_p3 t_width t_length (upd (upd t_now (Int32.toNatClampNeg (x1 - (1 : Int32))) r30) (Int32.toNatClampNeg x1) (t_now (Int32.toNatClampNeg (x1 - (1 : Int32))))) p2_n p2_cells p3_modulus p3_values) H := hP
  have hD : va_D A (w_X0_cross Y h_t h_p2 h_p3 B_t B_p2 B_p3 t_width t_length (upd (upd t_now (Int32.toNatClampNeg (x1 - (1 : Int32))) r30) (Int32.toNatClampNeg x1) (t_now (Int32.toNatClampNeg (x1 - (1 : Int32))))) p2_n p2_cells p3_modulus p3_values) := hD
  refine lv_aload_n hx hb dX0_cross_42 rfl (lv_at hl 5 rfl) ?_
  refine lv_iload hx hb dX0_cross_43 (lv_at hl 1 rfl) ?_
  refine lv_iload hx hb dX0_cross_45 (lv_at hl 0 rfl) ?_
  refine mc_iV ⟨hx, hb, hml, hown, hts⟩ hK hE hA hP hD hS (c_X9_value l G Y tF H.size h_p3 B_p3 p3_modulus p3_values (t_now (Int32.toNatClampNeg (x1 - (1 : Int32)))) (t_now (Int32.toNatClampNeg x1)) h) (cwV 2 hts gX0_cross_X9_value rfl rfl rfl (by decide +kernel) ⟨Nat.le_trans (by decide) hRf, Nat.le_trans (by decide) hRl⟩) (fun u => (w_X0_cross Y h_t h_p2 h_p3 B_t B_p2 B_p3 t_width t_length (upd (upd t_now (Int32.toNatClampNeg (x1 - (1 : Int32))) r30) (Int32.toNatClampNeg x1) (t_now (Int32.toNatClampNeg (x1 - (1 : Int32))))) p2_n p2_cells p3_modulus p3_values)) [4, 5] [0, 1, 2, 3] [0, 1, 2, 3, 4, 5] rfl rfl rfl rfl (by decide) (fun _ => rfl) rfl 4 8 rfl rfl rfl rfl hl.1 rfl (Nat.le_of_ble_eq_true rfl) dX0_cross_47 (fun r47 u H locs h hP hD hS => ?_)
  try dsimp only at h
  have hP : va_P G vwCl (w_X0_cross Y h_t h_p2 h_p3 B_t B_p2 B_p3 t_width t_length (upd (upd t_now (Int32.toNatClampNeg (x1 - (1 : Int32))) r30) (Int32.toNatClampNeg x1) (t_now (Int32.toNatClampNeg (x1 - (1 : Int32))))) p2_n p2_cells p3_modulus p3_values) H := hP
  have hD : va_D A (w_X0_cross Y h_t h_p2 h_p3 B_t B_p2 B_p3 t_width t_length (upd (upd t_now (Int32.toNatClampNeg (x1 - (1 : Int32))) r30) (Int32.toNatClampNeg x1) (t_now (Int32.toNatClampNeg (x1 - (1 : Int32))))) p2_n p2_cells p3_modulus p3_values) := hD
  exact hret r47 (upd (upd t_now (Int32.toNatClampNeg (x1 - (1 : Int32))) r30) (Int32.toNatClampNeg x1) (t_now (Int32.toNatClampNeg (x1 - (1 : Int32))))) H locs ls _ hP hD hS h dX0_cross_50

set_option maxHeartbeats 4000000 in
set_option maxRecDepth 100000 in
theorem c_X0_cross (l : Launch) (G : va_G) (Y : Nat → ClassId) (tF sz : Nat) (h_t : Nat) (h_p2 : Nat) (h_p3 : Nat) (B_t : Nat → Nat) (B_p2 : Nat → Nat) (B_p3 : Nat → Nat) (t_width : Int32) (t_length : Int32) (t_now : Nat → Int32) (p2_n : Int32) (p2_cells : Nat → Int32) (p3_modulus : Int32) (p3_values : Nat → Int32) (x1 : Int32) {K : Int32 → (Nat → Int32) → Prop} (h : pX0_cross t_now p2_cells p3_values x1 K) : Met l yX0_cross wsX0_cross ({ frames := 1, cells := 0, slots := 0, locals := 22 }) (PcM G Y tF sz (w_X0_cross Y h_t h_p2 h_p3 B_t B_p2 B_p3 t_width t_length t_now p2_n p2_cells p3_modulus p3_values) [.ref h_t, .int x1, .ref h_p2, .ref h_p3]) (va_Qi (fun (r : Int32) (u : (Nat → Int32)) => K r u) (fun u t => BM G Y (va_A (w_X0_cross Y h_t h_p2 h_p3 B_t B_p2 B_p3 t_width t_length t_now p2_n p2_cells p3_modulus p3_values) sz) (w_X0_cross Y h_t h_p2 h_p3 B_t B_p2 B_p3 t_width t_length u p2_n p2_cells p3_modulus p3_values) t) (va_A (w_X0_cross Y h_t h_p2 h_p3 B_t B_p2 B_p3 t_width t_length t_now p2_n p2_cells p3_modulus p3_values) sz)) 0 0 (va_A (w_X0_cross Y h_t h_p2 h_p3 B_t B_p2 B_p3 t_width t_length t_now p2_n p2_cells p3_modulus p3_values) sz) := by
  refine Met.ofW (cc := cX0_cross) (maxL := 6) (ret := (some .int)) (by decide +kernel) rfl ?_
  intro p e s m args below meth c s₁ B hml hv
  obtain ⟨rfl, hsz, hP, hK, hD0, hE⟩ := hv
  have hts := atoms_spec (ws := wsX0_cross) B.pre
  have hown : s.vm.findClass RX0 = some m.cls := findClass_of_methodNamed B.named
  have hlocks := B.notSynchronized
  subst hsz
  have hD := hD0.self (sz := s.heap.size)
  exact wk_X0_cross h_t h_p2 h_p3 B_t B_p2 B_p3 t_width t_length t_now p2_n p2_cells p3_modulus p3_values x1 B.exec B.bytes hml hown hts hK hE (fun q h => Or.inr h) (Nat.le_refl _) (Nat.le_refl _) (fun r t_now H locs ls pc hP hD hS hk hd => W.iret (v := r) B.exec B.bytes B.returns (fun t ht hW => ⟨⟨r, t_now, rfl, hk, by rw [ht]; exact hP, va_K.moved hW.alike hK, hD⟩, hS.F ht⟩) hS.2.2 hd) hP hD h

abbrev w_X0_uncross (Y : Nat → ClassId) (h_t : Nat) (h_p2 : Nat) (h_p3 : Nat) (B_t : Nat → Nat) (B_p2 : Nat → Nat) (B_p3 : Nat → Nat) (t_width : Int32) (t_length : Int32) (t_now : Nat → Int32) (p2_n : Int32) (p2_cells : Nat → Int32) (p3_modulus : Int32) (p3_values : Nat → Int32) : va_W := [(h_t, .inr (0, [.ref (B_t 0), .ref (B_t 1), .ref (B_t 2), .ref (B_t 3), .int t_width, .int t_length])), ((B_t 2), .inl (Y 0, 4, .inl t_now)), (h_p2, .inr (6, [.ref (B_p2 0), .int p2_n])), ((B_p2 0), .inl (Y 0, 64, .inl p2_cells)), (h_p3, .inr (8, [.ref (B_p3 0), .int p3_modulus])), ((B_p3 0), .inl (Y 0, 64, .inl p3_values))]

set_option maxHeartbeats 4000000 in
set_option maxRecDepth 100000 in
theorem wk_X0_uncross {p : Program} {l : Launch} {e : Env} {R : Room} {s : State} {m : MethodId} {args : Array Value} {below : List Frame} {meth : Method} {c : Code} {Q : State → Prop} {G : va_G} {Y : Nat → ClassId} {tF : Nat} {A : Nat → Prop} (h_t : Nat) (h_p2 : Nat) (h_p3 : Nat) (B_t : Nat → Nat) (B_p2 : Nat → Nat) (B_p3 : Nat → Nat) (t_width : Int32) (t_length : Int32) (t_now : Nat → Int32) (p2_n : Int32) (p2_cells : Nat → Int32) (p3_modulus : Int32) (p3_values : Nat → Int32) (x1 : Int32) {K : Int32 → (Nat → Int32) → Prop} (hx : p.tables.exec = Jvm.exec) (hb : c.code = cX0_uncross) (hml : c.maxLocals = 7) (hown : s.vm.findClass RX0 = some m.cls) (hts : ∀ w ∈ wsX0_uncross, w.before args s = true) (hK : va_K G vwCl (tyL Y) s) (hE : Ev A tF s) (hA : ∀ q, s.heap.size ≤ q → A q) (hRf : 1 ≤ R.frames) (hRl : 22 ≤ R.locals) (hret : ∀ (r : Int32) (t_now : Nat → Int32) (H : Heap) (locs : List Loc) (ls : Array Slot) (pc : Nat), va_P G vwCl (w_X0_uncross Y h_t h_p2 h_p3 B_t B_p2 B_p3 t_width t_length t_now p2_n p2_cells p3_modulus p3_values) H → va_D A (w_X0_uncross Y h_t h_p2 h_p3 B_t B_p2 B_p3 t_width t_length t_now p2_n p2_cells p3_modulus p3_values) → va_S A s.heap H locs → K r t_now → decode cX0_uncross pc = .ok (.ireturn, 1) → W p l e R s m args below meth c H locs 0 0 Q (F0 m pc ls [.int r])) (hP : va_P G vwCl (w_X0_uncross Y h_t h_p2 h_p3 B_t B_p2 B_p3 t_width t_length t_now p2_n p2_cells p3_modulus p3_values) s.heap) (hD : va_D A (w_X0_uncross Y h_t h_p2 h_p3 B_t B_p2 B_p3 t_width t_length t_now p2_n p2_cells p3_modulus p3_values)) (h : pX0_uncross t_now p2_cells p3_values x1 K) : W p l e R s m args below meth c s.heap [] 0 0 Q (entryFrame m ([.ref h_t, .int x1, .ref h_p2, .ref h_p3] : List Value).toArray 7) := by
  have inX0 : ∀ w ∈ u_ws RX0 TX0 6, w ∈ wsX0_uncross := by decide +kernel
  have hf18 := hts (.fieldLink RX0 18 "RackBench$Braid" "now" "[I") (by decide +kernel)
  have hl := lv_entry ([.ref h_t, .int x1, .ref h_p2, .ref h_p3]) (n := 7) (Nat.le_of_ble_eq_true rfl)
  rw [lg_entry_eq]
  generalize (lg_sl ([.ref h_t, .int x1, .ref h_p2, .ref h_p3]) ++ List.replicate (7 - (lg_sl ([.ref h_t, .int x1, .ref h_p2, .ref h_p3])).length) Slot.unset).toArray = ls at hl ⊢
  have hl : lv_has ls 7 [(0, .ref h_t), (1, .int x1), (2, .ref h_p2), (3, .ref h_p3)] := hl
  generalize hH0 : s.heap = H at hP ⊢
  have hS : va_S A s.heap H [] := by rw [← hH0]; exact va_S.rf
  clear hH0
  generalize ([] : List Loc) = locs at hS ⊢
  refine lv_aload_n hx hb dX0_uncross_0 rfl (lv_at hl 0 rfl) ?_
  refine va_get (D := G) (ci := 0) (v := .ref (B_t 2)) (C := RX0) (T := TX0) (N := 6) hx hb hts inX0 hown hK hP 0 rfl rfl 2 (by decide) hf18 (fun _ h9 => h9) rfl dX0_uncross_1 ?_
  refine lv_iload_n hx hb dX0_uncross_4 rfl (lv_at hl 1 rfl) ?_
  refine lv_iconst (v := 1) hx hb dX0_uncross_5 (by decide) ?_
  refine lv_isub hx hb dX0_uncross_6 ?_
  obtain ⟨hin, h⟩ := h
  refine va_iald hx hb hK hP 1 0 rfl rfl hin dX0_uncross_7 ?_
  refine lv_istore (lv' := [(4, .int (t_now (Int32.toNatClampNeg (x1 - (1 : Int32))))), (0, .ref h_t), (1, .int x1), (2, .ref h_p2), (3, .ref h_p3)]) hx hb dX0_uncross_8 hl (by decide) rfl (fun ls hl => ?_)
  refine lv_aload_n hx hb dX0_uncross_10 rfl (lv_at hl 1 rfl) ?_
  refine va_get (D := G) (ci := 0) (v := .ref (B_t 2)) (C := RX0) (T := TX0) (N := 6) hx hb hts inX0 hown hK hP 0 rfl rfl 2 (by decide) hf18 (fun _ h9 => h9) rfl dX0_uncross_11 ?_
  refine lv_iload_n hx hb dX0_uncross_14 rfl (lv_at hl 2 rfl) ?_
  obtain ⟨hin, h⟩ := h
  refine va_iald hx hb hK hP 1 0 rfl rfl hin dX0_uncross_15 ?_
  refine lv_istore (lv' := [(5, .int (t_now (Int32.toNatClampNeg x1))), (4, .int (t_now (Int32.toNatClampNeg (x1 - (1 : Int32))))), (0, .ref h_t), (1, .int x1), (2, .ref h_p2), (3, .ref h_p3)]) hx hb dX0_uncross_16 hl (by decide) rfl (fun ls hl => ?_)
  refine lv_aload_n hx hb dX0_uncross_18 rfl (lv_at hl 4 rfl) ?_
  refine lv_iload hx hb dX0_uncross_19 (lv_at hl 0 rfl) ?_
  refine lv_iload hx hb dX0_uncross_21 (lv_at hl 1 rfl) ?_
  refine mc_iV ⟨hx, hb, hml, hown, hts⟩ hK hE hA hP hD hS (c_X7_turned l G Y tF H.size h_p2 B_p2 p2_n p2_cells (t_now (Int32.toNatClampNeg x1)) (t_now (Int32.toNatClampNeg (x1 - (1 : Int32)))) h) (cwV 2 hts gX0_uncross_X7_turned rfl rfl rfl (by decide +kernel) ⟨Nat.le_trans (by decide) hRf, Nat.le_trans (by decide) hRl⟩) (fun u => (w_X0_uncross Y h_t h_p2 h_p3 B_t B_p2 B_p3 t_width t_length t_now p2_n p2_cells p3_modulus p3_values)) [2, 3] [0, 1, 4, 5] [0, 1, 4, 5, 2, 3] rfl rfl rfl rfl (by decide) (fun _ => rfl) rfl 2 6 rfl rfl rfl rfl hl.1 rfl (Nat.le_of_ble_eq_true rfl) dX0_uncross_23 (fun r23 u H locs h hP hD hS => ?_)
  try dsimp only at h
  have hP : va_P G vwCl (w_X0_uncross Y h_t h_p2 h_p3 B_t B_p2 B_p3 t_width t_length t_now p2_n p2_cells p3_modulus p3_values) H := hP
  have hD : va_D A (w_X0_uncross Y h_t h_p2 h_p3 B_t B_p2 B_p3 t_width t_length t_now p2_n p2_cells p3_modulus p3_values) := hD
  refine lv_istore (lv' := [(6, .int r23), (5, .int (t_now (Int32.toNatClampNeg x1))), (4, .int (t_now (Int32.toNatClampNeg (x1 - (1 : Int32))))), (0, .ref h_t), (1, .int x1), (2, .ref h_p2), (3, .ref h_p3)]) hx hb dX0_uncross_26 hl (by decide) rfl (fun ls hl => ?_)
  refine lv_aload_n hx hb dX0_uncross_28 rfl (lv_at hl 3 rfl) ?_
  refine va_get (D := G) (ci := 0) (v := .ref (B_t 2)) (C := RX0) (T := TX0) (N := 6) hx hb hts inX0 hown hK hP 0 rfl rfl 2 (by decide) hf18 (fun _ h9 => h9) rfl dX0_uncross_29 ?_
  refine lv_iload_n hx hb dX0_uncross_32 rfl (lv_at hl 4 rfl) ?_
  refine lv_iconst (v := 1) hx hb dX0_uncross_33 (by decide) ?_
  refine lv_isub hx hb dX0_uncross_34 ?_
  refine lv_iload hx hb dX0_uncross_35 (lv_at hl 1 rfl) ?_
  obtain ⟨hin, h⟩ := h
  refine va_iast hx hb hK hP hD hS 1 0 rfl rfl hin dX0_uncross_37 (fun H locs hP hD hS => ?_)
  have hP : va_P G vwCl (w_X0_uncross Y h_t h_p2 h_p3 B_t B_p2 B_p3 t_width t_length (upd t_now (Int32.toNatClampNeg (x1 - (1 : Int32))) (t_now (Int32.toNatClampNeg x1))) p2_n p2_cells p3_modulus p3_values) H := hP
  have hD : va_D A (w_X0_uncross Y h_t h_p2 h_p3 B_t B_p2 B_p3 t_width t_length (upd t_now (Int32.toNatClampNeg (x1 - (1 : Int32))) (t_now (Int32.toNatClampNeg x1))) p2_n p2_cells p3_modulus p3_values) := hD
  refine lv_aload_n hx hb dX0_uncross_38 rfl (lv_at hl 3 rfl) ?_
  refine va_get (D := G) (ci := 0) (v := .ref (B_t 2)) (C := RX0) (T := TX0) (N := 6) hx hb hts inX0 hown hK hP 0 rfl rfl 2 (by decide) hf18 (fun _ h9 => h9) rfl dX0_uncross_39 ?_
  refine lv_iload_n hx hb dX0_uncross_42 rfl (lv_at hl 4 rfl) ?_
  refine lv_iload hx hb dX0_uncross_43 (lv_at hl 0 rfl) ?_
  obtain ⟨hin, h⟩ := h
  refine va_iast hx hb hK hP hD hS 1 0 rfl rfl hin dX0_uncross_45 (fun H locs hP hD hS => ?_)
  have hP : va_P G vwCl (w_X0_uncross Y h_t h_p2 h_p3 B_t B_p2 B_p3 t_width t_length (upd (upd t_now (Int32.toNatClampNeg (x1 - (1 : Int32))) (t_now (Int32.toNatClampNeg x1))) (Int32.toNatClampNeg x1) r23) p2_n p2_cells p3_modulus p3_values) H := hP
  have hD : va_D A (w_X0_uncross Y h_t h_p2 h_p3 B_t B_p2 B_p3 t_width t_length (upd (upd t_now (Int32.toNatClampNeg (x1 - (1 : Int32))) (t_now (Int32.toNatClampNeg x1))) (Int32.toNatClampNeg x1) r23) p2_n p2_cells p3_modulus p3_values) := hD
  refine lv_aload_n hx hb dX0_uncross_46 rfl (lv_at hl 6 rfl) ?_
  refine lv_iload hx hb dX0_uncross_47 (lv_at hl 1 rfl) ?_
  refine lv_iload hx hb dX0_uncross_49 (lv_at hl 0 rfl) ?_
  refine mc_iV ⟨hx, hb, hml, hown, hts⟩ hK hE hA hP hD hS (c_X9_value l G Y tF H.size h_p3 B_p3 p3_modulus p3_values (t_now (Int32.toNatClampNeg x1)) r23 h) (cwV 2 hts gX0_uncross_X9_value rfl rfl rfl (by decide +kernel) ⟨Nat.le_trans (by decide) hRf, Nat.le_trans (by decide) hRl⟩) (fun u => (w_X0_uncross Y h_t h_p2 h_p3 B_t B_p2 B_p3 t_width t_length (upd (upd t_now (Int32.toNatClampNeg (x1 - (1 : Int32))) (t_now (Int32.toNatClampNeg x1))) (Int32.toNatClampNeg x1) r23) p2_n p2_cells p3_modulus p3_values)) [4, 5] [0, 1, 2, 3] [0, 1, 2, 3, 4, 5] rfl rfl rfl rfl (by decide) (fun _ => rfl) rfl 4 8 rfl rfl rfl rfl hl.1 rfl (Nat.le_of_ble_eq_true rfl) dX0_uncross_51 (fun r51 u H locs h hP hD hS => ?_)
  try dsimp only at h
  have hP : va_P G vwCl (w_X0_uncross Y h_t h_p2 h_p3 B_t B_p2 B_p3 t_width t_length (upd (upd t_now (Int32.toNatClampNeg (x1 - (1 : Int32))) (t_now (Int32.toNatClampNeg x1))) (Int32.toNatClampNeg x1) r23) p2_n p2_cells p3_modulus p3_values) H := hP
  have hD : va_D A (w_X0_uncross Y h_t h_p2 h_p3 B_t B_p2 B_p3 t_width t_length (upd (upd t_now (Int32.toNatClampNeg (x1 - (1 : Int32))) (t_now (Int32.toNatClampNeg x1))) (Int32.toNatClampNeg x1) r23) p2_n p2_cells p3_modulus p3_values) := hD
  refine lv_ineg hx hb dX0_uncross_54 ?_
  exact hret (-r51) (upd (upd t_now (Int32.toNatClampNeg (x1 - (1 : Int32))) (t_now (Int32.toNatClampNeg x1))) (Int32.toNatClampNeg x1) r23) H locs ls _ hP hD hS h dX0_uncross_55

set_option maxHeartbeats 4000000 in
set_option maxRecDepth 100000 in
theorem c_X0_uncross (l : Launch) (G : va_G) (Y : Nat → ClassId) (tF sz : Nat) (h_t : Nat) (h_p2 : Nat) (h_p3 : Nat) (B_t : Nat → Nat) (B_p2 : Nat → Nat) (B_p3 : Nat → Nat) (t_width : Int32) (t_length : Int32) (t_now : Nat → Int32) (p2_n : Int32) (p2_cells : Nat → Int32) (p3_modulus : Int32) (p3_values : Nat → Int32) (x1 : Int32) {K : Int32 → (Nat → Int32) → Prop} (h : pX0_uncross t_now p2_cells p3_values x1 K) : Met l yX0_uncross wsX0_uncross ({ frames := 1, cells := 0, slots := 0, locals := 22 }) (PcM G Y tF sz (w_X0_uncross Y h_t h_p2 h_p3 B_t B_p2 B_p3 t_width t_length t_now p2_n p2_cells p3_modulus p3_values) [.ref h_t, .int x1, .ref h_p2, .ref h_p3]) (va_Qi (fun (r : Int32) (u : (Nat → Int32)) => K r u) (fun u t => BM G Y (va_A (w_X0_uncross Y h_t h_p2 h_p3 B_t B_p2 B_p3 t_width t_length t_now p2_n p2_cells p3_modulus p3_values) sz) (w_X0_uncross Y h_t h_p2 h_p3 B_t B_p2 B_p3 t_width t_length u p2_n p2_cells p3_modulus p3_values) t) (va_A (w_X0_uncross Y h_t h_p2 h_p3 B_t B_p2 B_p3 t_width t_length t_now p2_n p2_cells p3_modulus p3_values) sz)) 0 0 (va_A (w_X0_uncross Y h_t h_p2 h_p3 B_t B_p2 B_p3 t_width t_length t_now p2_n p2_cells p3_modulus p3_values) sz) := by
  refine Met.ofW (cc := cX0_uncross) (maxL := 7) (ret := (some .int)) (by decide +kernel) rfl ?_
  intro p e s m args below meth c s₁ B hml hv
  obtain ⟨rfl, hsz, hP, hK, hD0, hE⟩ := hv
  have hts := atoms_spec (ws := wsX0_uncross) B.pre
  have hown : s.vm.findClass RX0 = some m.cls := findClass_of_methodNamed B.named
  have hlocks := B.notSynchronized
  subst hsz
  have hD := hD0.self (sz := s.heap.size)
  exact wk_X0_uncross h_t h_p2 h_p3 B_t B_p2 B_p3 t_width t_length t_now p2_n p2_cells p3_modulus p3_values x1 B.exec B.bytes hml hown hts hK hE (fun q h => Or.inr h) (Nat.le_refl _) (Nat.le_refl _) (fun r t_now H locs ls pc hP hD hS hk hd => W.iret (v := r) B.exec B.bytes B.returns (fun t ht hW => ⟨⟨r, t_now, rfl, hk, by rw [ht]; exact hP, va_K.moved hW.alike hK, hD⟩, hS.F ht⟩) hS.2.2 hd) hP hD h

abbrev w_X0_isAsAhead (Y : Nat → ClassId) (h_t : Nat) (B_t : Nat → Nat) (t_width : Int32) (t_length : Int32) (t_ahead : Nat → Int32) (t_now : Nat → Int32) : va_W := [(h_t, .inr (0, [.ref (B_t 0), .ref (B_t 1), .ref (B_t 2), .ref (B_t 3), .int t_width, .int t_length])), ((B_t 1), .inl (Y 0, 4, .inl t_ahead)), ((B_t 2), .inl (Y 0, 4, .inl t_now))]

set_option maxHeartbeats 4000000 in
set_option maxRecDepth 100000 in
theorem wk_X0_isAsAhead {p : Program} {l : Launch} {e : Env} {R : Room} {s : State} {m : MethodId} {args : Array Value} {below : List Frame} {meth : Method} {c : Code} {Q : State → Prop} {G : va_G} {Y : Nat → ClassId} {tF : Nat} {A : Nat → Prop} (h_t : Nat) (B_t : Nat → Nat) (t_width : Int32) (t_length : Int32) (t_ahead : Nat → Int32) (t_now : Nat → Int32) {K : Int32 → Prop} (hx : p.tables.exec = Jvm.exec) (hb : c.code = cX0_isAsAhead) (hml : c.maxLocals = 2) (hown : s.vm.findClass RX0 = some m.cls) (hts : ∀ w ∈ wsX0_isAsAhead, w.before args s = true) (hK : va_K G vwCl (tyL Y) s) (hE : Ev A tF s) (hA : ∀ q, s.heap.size ≤ q → A q) (hRf : 0 ≤ R.frames) (hRl : 0 ≤ R.locals) (hret : ∀ (r : Int32)  (H : Heap) (locs : List Loc) (ls : Array Slot) (pc : Nat), va_P G vwCl (w_X0_isAsAhead Y h_t B_t t_width t_length t_ahead t_now) H → va_D A (w_X0_isAsAhead Y h_t B_t t_width t_length t_ahead t_now) → va_S A s.heap H locs → zb r → K r → decode cX0_isAsAhead pc = .ok (.ireturn, 1) → W p l e R s m args below meth c H locs 0 0 Q (F0 m pc ls [.int r])) (hP : va_P G vwCl (w_X0_isAsAhead Y h_t B_t t_width t_length t_ahead t_now) s.heap) (hD : va_D A (w_X0_isAsAhead Y h_t B_t t_width t_length t_ahead t_now)) (h : pX0_isAsAhead t_width t_ahead t_now K) : W p l e R s m args below meth c s.heap [] 0 0 Q (entryFrame m ([.ref h_t] : List Value).toArray 2) := by
  have inX0 : ∀ w ∈ u_ws RX0 TX0 6, w ∈ wsX0_isAsAhead := by decide +kernel
  have hf15 := hts (.fieldLink RX0 15 "RackBench$Braid" "ahead" "[I") (by decide +kernel)
  have hf18 := hts (.fieldLink RX0 18 "RackBench$Braid" "now" "[I") (by decide +kernel)
  have hf24 := hts (.fieldLink RX0 24 "RackBench$Braid" "width" "I") (by decide +kernel)
  have hl := lv_entry ([.ref h_t]) (n := 2) (Nat.le_of_ble_eq_true rfl)
  rw [lg_entry_eq]
  generalize (lg_sl ([.ref h_t]) ++ List.replicate (2 - (lg_sl ([.ref h_t])).length) Slot.unset).toArray = ls at hl ⊢
  have hl : lv_has ls 2 [(0, .ref h_t)] := hl
  generalize hH0 : s.heap = H at hP ⊢
  have hS : va_S A s.heap H [] := by rw [← hH0]; exact va_S.rf
  clear hH0
  generalize ([] : List Loc) = locs at hS ⊢
  refine lv_iconst (v := 0) hx hb dX0_isAsAhead_0 (by decide) ?_
  refine lv_istore_n (lv' := [(1, .int (0 : Int32)), (0, .ref h_t)]) hx hb dX0_isAsAhead_1 rfl hl (by decide) rfl (fun ls hl => ?_)
  obtain ⟨I2, m2, hI2, hB2⟩ := h
  have L2 : ∀  (I2 : Int32 → Prop) (m2 : Int32 → Nat), (∀ (x1 : Int32), I2 x1 → pX0_isAsAhead_2 t_width t_ahead t_now K x1 (fun x1' => I2 x1' ∧ m2 x1' < m2 x1)) → ∀ (n : Nat) (x1 : Int32) (H : Heap) (locs : List Loc) (ls : Array Slot), I2 x1 → m2 x1 < n → va_P G vwCl (w_X0_isAsAhead Y h_t B_t t_width t_length t_ahead t_now) H → va_D A (w_X0_isAsAhead Y h_t B_t t_width t_length t_ahead t_now) → va_S A s.heap H locs → lv_has ls 2 [(0, .ref h_t), (1, .int x1)] → W p l e R s m args below meth c H locs 0 0 Q (F0 m 2 ls []) := by
    intro  I2 m2 hB2 n
    induction n with
    | zero => intro x1 H locs ls _ hm; exact absurd hm (Nat.not_lt_zero _)
    | succ n ih =>
      intro x1 H locs ls hI hm hP hD hS hl
      obtain ⟨R2, h, rec2⟩ : ∃ R2 : Int32 → Prop, pX0_isAsAhead_2 t_width t_ahead t_now K x1 R2 ∧ ∀ (x1 : Int32) (H : Heap) (locs : List Loc) (ls : Array Slot), R2 x1 → va_P G vwCl (w_X0_isAsAhead Y h_t B_t t_width t_length t_ahead t_now) H → va_D A (w_X0_isAsAhead Y h_t B_t t_width t_length t_ahead t_now) → va_S A s.heap H locs → lv_has ls 2 [(0, .ref h_t), (1, .int x1)] → W p l e R s m args below meth c H locs 0 0 Q (F0 m 2 ls []) := ⟨_, hB2 x1 hI, fun x1 H locs ls hh hP hD hS hl => ih x1 H locs ls hh.1 (Nat.lt_of_lt_of_le hh.2 (Nat.le_of_lt_succ hm)) hP hD hS hl⟩
      refine lv_iload_n hx hb dX0_isAsAhead_2 rfl (lv_at hl 1 rfl) ?_
      refine lv_aload_n hx hb dX0_isAsAhead_3 rfl (lv_at hl 0 rfl) ?_
      refine va_get (D := G) (ci := 0) (v := .int t_width) (C := RX0) (T := TX0) (N := 6) hx hb hts inX0 hown hK hP 0 rfl rfl 4 (by decide) hf24 (fun _ h9 => h9) rfl dX0_isAsAhead_4 ?_
      obtain ⟨ht, hf⟩ := h
      refine lv_icmp_ge (tgt := 33) hx hb dX0_isAsAhead_7 (by decide) (fun c9 => ?_) (fun c9 => ?_)
      · have h := ht c9
        refine lv_iconst (v := 1) hx hb dX0_isAsAhead_33 (by decide) ?_
        obtain ⟨hz, h⟩ := h
        exact hret (1 : Int32)  H locs ls _ hP hD hS hz h dX0_isAsAhead_34
      · have h := hf c9
        refine lv_aload_n hx hb dX0_isAsAhead_10 rfl (lv_at hl 0 rfl) ?_
        refine va_get (D := G) (ci := 0) (v := .ref (B_t 2)) (C := RX0) (T := TX0) (N := 6) hx hb hts inX0 hown hK hP 0 rfl rfl 2 (by decide) hf18 (fun _ h9 => h9) rfl dX0_isAsAhead_11 ?_
        refine lv_iload_n hx hb dX0_isAsAhead_14 rfl (lv_at hl 1 rfl) ?_
        obtain ⟨hin, h⟩ := h
        refine va_iald hx hb hK hP 2 0 rfl rfl hin dX0_isAsAhead_15 ?_
        refine lv_aload_n hx hb dX0_isAsAhead_16 rfl (lv_at hl 0 rfl) ?_
        refine va_get (D := G) (ci := 0) (v := .ref (B_t 1)) (C := RX0) (T := TX0) (N := 6) hx hb hts inX0 hown hK hP 0 rfl rfl 1 (by decide) hf15 (fun _ h9 => h9) rfl dX0_isAsAhead_17 ?_
        refine lv_iload_n hx hb dX0_isAsAhead_20 rfl (lv_at hl 1 rfl) ?_
        obtain ⟨hin, h⟩ := h
        refine va_iald hx hb hK hP 1 0 rfl rfl hin dX0_isAsAhead_21 ?_
        obtain ⟨ht, hf⟩ := h
        refine lv_icmp_eq (tgt := 27) hx hb dX0_isAsAhead_22 (by decide) (fun c9 => ?_) (fun c9 => ?_)
        · have h := ht c9
          refine lv_iinc (v := (x1 + 1)) (lv' := [(1, .int (x1 + 1)), (0, .ref h_t)]) hx hb dX0_isAsAhead_27 hl (k := 1) rfl rfl (by decide) rfl (fun ls hl => ?_)
          refine lv_goto (tgt := 2) hx hb dX0_isAsAhead_30 (by decide) ?_
          exact rec2 (x1 + 1) H locs ls h hP hD hS (lv_sub hl [1, 0] rfl)
        · have h := hf c9
          refine lv_iconst (v := 0) hx hb dX0_isAsAhead_25 (by decide) ?_
          obtain ⟨hz, h⟩ := h
          exact hret (0 : Int32)  H locs ls _ hP hD hS hz h dX0_isAsAhead_26
  exact L2  I2 m2 hB2 _ (0 : Int32) H locs ls hI2 (Nat.lt_succ_self _) hP hD hS (lv_sub hl [1, 0] rfl)

set_option maxHeartbeats 4000000 in
set_option maxRecDepth 100000 in
theorem c_X0_isAsAhead (l : Launch) (G : va_G) (Y : Nat → ClassId) (tF sz : Nat) (h_t : Nat) (B_t : Nat → Nat) (t_width : Int32) (t_length : Int32) (t_ahead : Nat → Int32) (t_now : Nat → Int32) {K : Int32 → Prop} (h : pX0_isAsAhead t_width t_ahead t_now K) : Met l yX0_isAsAhead wsX0_isAsAhead ({ frames := 0, cells := 0, slots := 0, locals := 0 }) (PcM G Y tF sz (w_X0_isAsAhead Y h_t B_t t_width t_length t_ahead t_now) [.ref h_t]) (va_Qi (fun (r : Int32) (u : Unit) => K r ) (fun u t => BM G Y (va_A (w_X0_isAsAhead Y h_t B_t t_width t_length t_ahead t_now) sz) (w_X0_isAsAhead Y h_t B_t t_width t_length t_ahead t_now) t) (va_A (w_X0_isAsAhead Y h_t B_t t_width t_length t_ahead t_now) sz)) 0 0 (va_A (w_X0_isAsAhead Y h_t B_t t_width t_length t_ahead t_now) sz) := by
  refine Met.ofW (cc := cX0_isAsAhead) (maxL := 2) (ret := (some .boolean)) (by decide +kernel) rfl ?_
  intro p e s m args below meth c s₁ B hml hv
  obtain ⟨rfl, hsz, hP, hK, hD0, hE⟩ := hv
  have hts := atoms_spec (ws := wsX0_isAsAhead) B.pre
  have hown : s.vm.findClass RX0 = some m.cls := findClass_of_methodNamed B.named
  have hlocks := B.notSynchronized
  subst hsz
  have hD := hD0.self (sz := s.heap.size)
  exact wk_X0_isAsAhead h_t B_t t_width t_length t_ahead t_now B.exec B.bytes hml hown hts hK hE (fun q h => Or.inr h) (Nat.le_refl _) (Nat.le_refl _) (fun r  H locs ls pc hP hD hS hz hk hd => W.zret (v := r) B.exec B.bytes B.returns hz.n (fun t ht hW => ⟨⟨r, (), rfl, hk, by rw [ht]; exact hP, va_K.moved hW.alike hK, hD⟩, hS.F ht⟩) hS.2.2 hd) hP hD h

abbrev w_X0_tally (Y : Nat → ClassId) (h_t : Nat) (h_p1 : Nat) (h_p2 : Nat) (h_p3 : Nat) (B_t : Nat → Nat) (B_p1 : Nat → Nat) (B_p2 : Nat → Nat) (B_p3 : Nat → Nat) (t_width : Int32) (t_length : Int32) (t_ahead : Nat → Int32) (t_now : Nat → Int32) (t_tallies : Nat → Int32) (t_word : Nat → Int32) (p1_n : Int32) (p1_cells : Nat → Int32) (p2_n : Int32) (p2_cells : Nat → Int32) (p3_modulus : Int32) (p3_values : Nat → Int32) : va_W := [(h_t, .inr (0, [.ref (B_t 0), .ref (B_t 1), .ref (B_t 2), .ref (B_t 3), .int t_width, .int t_length])), ((B_t 1), .inl (Y 0, 4, .inl t_ahead)), ((B_t 2), .inl (Y 0, 4, .inl t_now)), ((B_t 3), .inl (Y 0, 7, .inl t_tallies)), ((B_t 0), .inl (Y 0, 24, .inl t_word)), (h_p1, .inr (6, [.ref (B_p1 0), .int p1_n])), ((B_p1 0), .inl (Y 0, 64, .inl p1_cells)), (h_p2, .inr (6, [.ref (B_p2 0), .int p2_n])), ((B_p2 0), .inl (Y 0, 64, .inl p2_cells)), (h_p3, .inr (8, [.ref (B_p3 0), .int p3_modulus])), ((B_p3 0), .inl (Y 0, 64, .inl p3_values))]

set_option maxHeartbeats 4000000 in
set_option maxRecDepth 100000 in
theorem wk_X0_tally {p : Program} {l : Launch} {e : Env} {R : Room} {s : State} {m : MethodId} {args : Array Value} {below : List Frame} {meth : Method} {c : Code} {Q : State → Prop} {G : va_G} {Y : Nat → ClassId} {tF : Nat} {A : Nat → Prop} (h_t : Nat) (h_p1 : Nat) (h_p2 : Nat) (h_p3 : Nat) (B_t : Nat → Nat) (B_p1 : Nat → Nat) (B_p2 : Nat → Nat) (B_p3 : Nat → Nat) (t_width : Int32) (t_length : Int32) (t_ahead : Nat → Int32) (t_now : Nat → Int32) (t_tallies : Nat → Int32) (t_word : Nat → Int32) (p1_n : Int32) (p1_cells : Nat → Int32) (p2_n : Int32) (p2_cells : Nat → Int32) (p3_modulus : Int32) (p3_values : Nat → Int32) {K : (Nat → Int32) → (Nat → Int32) → (Nat → Int32) → Prop} (hx : p.tables.exec = Jvm.exec) (hb : c.code = cX0_tally) (hml : c.maxLocals = 8) (hown : s.vm.findClass RX0 = some m.cls) (hts : ∀ w ∈ wsX0_tally, w.before args s = true) (hK : va_K G vwCl (tyL Y) s) (hE : Ev A tF s) (hA : ∀ q, s.heap.size ≤ q → A q) (hRf : 2 ≤ R.frames) (hRl : 48 ≤ R.locals) (hret : ∀ (t_ahead : Nat → Int32) (t_now : Nat → Int32) (t_tallies : Nat → Int32) (H : Heap) (locs : List Loc) (ls : Array Slot) (pc : Nat), va_P G vwCl (w_X0_tally Y h_t h_p1 h_p2 h_p3 B_t B_p1 B_p2 B_p3 t_width t_length t_ahead t_now t_tallies t_word p1_n p1_cells p2_n p2_cells p3_modulus p3_values) H → va_D A (w_X0_tally Y h_t h_p1 h_p2 h_p3 B_t B_p1 B_p2 B_p3 t_width t_length t_ahead t_now t_tallies t_word p1_n p1_cells p2_n p2_cells p3_modulus p3_values) → va_S A s.heap H locs → K t_ahead t_now t_tallies → decode cX0_tally pc = .ok (.return_, 1) → W p l e R s m args below meth c H locs 0 0 Q (F0 m pc ls [])) (hP : va_P G vwCl (w_X0_tally Y h_t h_p1 h_p2 h_p3 B_t B_p1 B_p2 B_p3 t_width t_length t_ahead t_now t_tallies t_word p1_n p1_cells p2_n p2_cells p3_modulus p3_values) s.heap) (hD : va_D A (w_X0_tally Y h_t h_p1 h_p2 h_p3 B_t B_p1 B_p2 B_p3 t_width t_length t_ahead t_now t_tallies t_word p1_n p1_cells p2_n p2_cells p3_modulus p3_values)) (h : pX0_tally t_width t_length t_ahead t_now t_tallies t_word p1_n p1_cells p2_cells p3_modulus p3_values K) : W p l e R s m args below meth c s.heap [] 0 0 Q (entryFrame m ([.ref h_t, .ref h_p1, .ref h_p2, .ref h_p3] : List Value).toArray 8) := by
  have inX0 : ∀ w ∈ u_ws RX0 TX0 6, w ∈ wsX0_tally := by decide +kernel
  have inX7 : ∀ w ∈ u_ws RX7 TX7 2, w ∈ wsX0_tally := by decide +kernel
  have inX9 : ∀ w ∈ u_ws RX9 TX9 2, w ∈ wsX0_tally := by decide +kernel
  have hf21 := hts (.fieldLink RX0 21 "RackBench$Braid" "tallies" "[I") (by decide +kernel)
  have hf24 := hts (.fieldLink RX0 24 "RackBench$Braid" "width" "I") (by decide +kernel)
  have hf28 := hts (.fieldLink RX0 28 "RackBench$Braid" "length" "I") (by decide +kernel)
  have hf9 := hts (.fieldLink RX0 9 "RackBench$Braid" "word" "[I") (by decide +kernel)
  have hl := lv_entry ([.ref h_t, .ref h_p1, .ref h_p2, .ref h_p3]) (n := 8) (Nat.le_of_ble_eq_true rfl)
  rw [lg_entry_eq]
  generalize (lg_sl ([.ref h_t, .ref h_p1, .ref h_p2, .ref h_p3]) ++ List.replicate (8 - (lg_sl ([.ref h_t, .ref h_p1, .ref h_p2, .ref h_p3])).length) Slot.unset).toArray = ls at hl ⊢
  have hl : lv_has ls 8 [(0, .ref h_t), (1, .ref h_p1), (2, .ref h_p2), (3, .ref h_p3)] := hl
  generalize hH0 : s.heap = H at hP ⊢
  have hS : va_S A s.heap H [] := by rw [← hH0]; exact va_S.rf
  clear hH0
  generalize ([] : List Loc) = locs at hS ⊢
  refine lv_aload_n hx hb dX0_tally_0 rfl (lv_at hl 0 rfl) ?_
  refine va_get (D := G) (ci := 0) (v := .ref (B_t 3)) (C := RX0) (T := TX0) (N := 6) hx hb hts inX0 hown hK hP 0 rfl rfl 3 (by decide) hf21 (fun _ h9 => h9) rfl dX0_tally_1 ?_
  refine lv_iconst (v := 0) hx hb dX0_tally_4 (by decide) ?_
  refine mc_vS ⟨hx, hb, hml, hown, hts⟩ hK hE hA hP hD hS (c_J7_fill_53178 l G Y tF H.size (B_t 3) 7 t_tallies (0 : Int32) h) (va_cwS 2 hts gX0_tally_J7_fill_53178 rfl rfl rfl (by decide +kernel) ⟨Nat.le_trans (by decide) hRf, Nat.le_trans (by decide) hRl⟩) (fun u => (w_X0_tally Y h_t h_p1 h_p2 h_p3 B_t B_p1 B_p2 B_p3 t_width t_length t_ahead t_now u t_word p1_n p1_cells p2_n p2_cells p3_modulus p3_values)) [3] [0, 1, 2, 4, 5, 6, 7, 8, 9, 10] [0, 1, 2, 10, 3, 4, 5, 6, 7, 8, 9] rfl rfl rfl rfl (by decide) (fun _ => rfl) rfl rfl hl.1 rfl (Nat.le_of_ble_eq_true rfl) dX0_tally_5 (fun u H locs h hP hD hS => ?_)
  obtain ⟨t_tallies_5, rfl⟩ : ∃ z, z = u := ⟨_, rfl⟩
  try dsimp only at h
  have hP : va_P G vwCl (w_X0_tally Y h_t h_p1 h_p2 h_p3 B_t B_p1 B_p2 B_p3 t_width t_length t_ahead t_now t_tallies_5 t_word p1_n p1_cells p2_n p2_cells p3_modulus p3_values) H := hP
  have hD : va_D A (w_X0_tally Y h_t h_p1 h_p2 h_p3 B_t B_p1 B_p2 B_p3 t_width t_length t_ahead t_now t_tallies_5 t_word p1_n p1_cells p2_n p2_cells p3_modulus p3_values) := hD
  refine lv_iconst (v := 1) hx hb dX0_tally_8 (by decide) ?_
  refine lv_istore (lv' := [(4, .int (1 : Int32)), (0, .ref h_t), (1, .ref h_p1), (2, .ref h_p2), (3, .ref h_p3)]) hx hb dX0_tally_9 hl (by decide) rfl (fun ls hl => ?_)
  refine lv_iconst (v := 0) hx hb dX0_tally_11 (by decide) ?_
  refine lv_istore (lv' := [(5, .int (0 : Int32)), (4, .int (1 : Int32)), (0, .ref h_t), (1, .ref h_p1), (2, .ref h_p2), (3, .ref h_p3)]) hx hb dX0_tally_12 hl (by decide) rfl (fun ls hl => ?_)
  obtain ⟨I14, m14, hI14, hB14⟩ := h
  have L14 : ∀ (t_ahead : Nat → Int32) (t_now : Nat → Int32) (t_tallies : Nat → Int32) (I14 : Int32 → Int32 → Prop) (m14 : Int32 → Int32 → Nat), (∀ (x4 : Int32) (x5 : Int32), I14 x4 x5 → pX0_tally_14 t_width t_length t_word p1_n p1_cells p2_cells p3_modulus p3_values K t_ahead t_now t_tallies x4 x5 (fun x4' x5' => I14 x4' x5' ∧ m14 x4' x5' < m14 x4 x5)) → ∀ (n : Nat) (x4 : Int32) (x5 : Int32) (H : Heap) (locs : List Loc) (ls : Array Slot), I14 x4 x5 → m14 x4 x5 < n → va_P G vwCl (w_X0_tally Y h_t h_p1 h_p2 h_p3 B_t B_p1 B_p2 B_p3 t_width t_length t_ahead t_now t_tallies t_word p1_n p1_cells p2_n p2_cells p3_modulus p3_values) H → va_D A (w_X0_tally Y h_t h_p1 h_p2 h_p3 B_t B_p1 B_p2 B_p3 t_width t_length t_ahead t_now t_tallies t_word p1_n p1_cells p2_n p2_cells p3_modulus p3_values) → va_S A s.heap H locs → lv_has ls 8 [(0, .ref h_t), (1, .ref h_p1), (2, .ref h_p2), (3, .ref h_p3), (4, .int x4), (5, .int x5)] → W p l e R s m args below meth c H locs 0 0 Q (F0 m 14 ls []) := by
    intro t_ahead t_now t_tallies I14 m14 hB14 n
    induction n with
    | zero => intro x4 x5 H locs ls _ hm; exact absurd hm (Nat.not_lt_zero _)
    | succ n ih =>
      intro x4 x5 H locs ls hI hm hP hD hS hl
      obtain ⟨R14, h, rec14⟩ : ∃ R14 : Int32 → Int32 → Prop, pX0_tally_14 t_width t_length t_word p1_n p1_cells p2_cells p3_modulus p3_values K t_ahead t_now t_tallies x4 x5 R14 ∧ ∀ (x4 : Int32) (x5 : Int32) (H : Heap) (locs : List Loc) (ls : Array Slot), R14 x4 x5 → va_P G vwCl (w_X0_tally Y h_t h_p1 h_p2 h_p3 B_t B_p1 B_p2 B_p3 t_width t_length t_ahead t_now t_tallies t_word p1_n p1_cells p2_n p2_cells p3_modulus p3_values) H → va_D A (w_X0_tally Y h_t h_p1 h_p2 h_p3 B_t B_p1 B_p2 B_p3 t_width t_length t_ahead t_now t_tallies t_word p1_n p1_cells p2_n p2_cells p3_modulus p3_values) → va_S A s.heap H locs → lv_has ls 8 [(0, .ref h_t), (1, .ref h_p1), (2, .ref h_p2), (3, .ref h_p3), (4, .int x4), (5, .int x5)] → W p l e R s m args below meth c H locs 0 0 Q (F0 m 14 ls []) := ⟨_, hB14 x4 x5 hI, fun x4 x5 H locs ls hh hP hD hS hl => ih x4 x5 H locs ls hh.1 (Nat.lt_of_lt_of_le hh.2 (Nat.le_of_lt_succ hm)) hP hD hS hl⟩
      refine lv_iload hx hb dX0_tally_14 (lv_at hl 5 rfl) ?_
      refine lv_aload_n hx hb dX0_tally_16 rfl (lv_at hl 0 rfl) ?_
      refine va_get (D := G) (ci := 0) (v := .int t_width) (C := RX0) (T := TX0) (N := 6) hx hb hts inX0 hown hK hP 0 rfl rfl 4 (by decide) hf24 (fun _ h9 => h9) rfl dX0_tally_17 ?_
      obtain ⟨ht, hf⟩ := h
      refine lv_icmp_ge (tgt := 38) hx hb dX0_tally_20 (by decide) (fun c9 => ?_) (fun c9 => ?_)
      · have h := ht c9
        refine lv_iconst (v := 0) hx hb dX0_tally_38 (by decide) ?_
        refine lv_istore (lv' := [(5, .int (0 : Int32)), (0, .ref h_t), (1, .ref h_p1), (2, .ref h_p2), (3, .ref h_p3), (4, .int x4)]) hx hb dX0_tally_39 hl (by decide) rfl (fun ls hl => ?_)
        obtain ⟨I41, m41, hI41, hB41⟩ := h
        have L41 : ∀ (x4 : Int32) (I41 : Int32 → (Nat → Int32) → (Nat → Int32) → (Nat → Int32) → Prop) (m41 : Int32 → (Nat → Int32) → (Nat → Int32) → (Nat → Int32) → Nat), (∀ (x5 : Int32) (t_ahead : Nat → Int32) (t_now : Nat → Int32) (t_tallies : Nat → Int32), I41 x5 t_ahead t_now t_tallies → pX0_tally_41 t_width t_length t_word p1_n p1_cells p2_cells p3_modulus p3_values R14 K x4 x5 t_ahead t_now t_tallies (fun x5' t_ahead' t_now' t_tallies' => I41 x5' t_ahead' t_now' t_tallies' ∧ m41 x5' t_ahead' t_now' t_tallies' < m41 x5 t_ahead t_now t_tallies)) → ∀ (n : Nat) (x5 : Int32) (t_ahead : Nat → Int32) (t_now : Nat → Int32) (t_tallies : Nat → Int32) (H : Heap) (locs : List Loc) (ls : Array Slot), I41 x5 t_ahead t_now t_tallies → m41 x5 t_ahead t_now t_tallies < n → va_P G vwCl (w_X0_tally Y h_t h_p1 h_p2 h_p3 B_t B_p1 B_p2 B_p3 t_width t_length t_ahead t_now t_tallies t_word p1_n p1_cells p2_n p2_cells p3_modulus p3_values) H → va_D A (w_X0_tally Y h_t h_p1 h_p2 h_p3 B_t B_p1 B_p2 B_p3 t_width t_length t_ahead t_now t_tallies t_word p1_n p1_cells p2_n p2_cells p3_modulus p3_values) → va_S A s.heap H locs → lv_has ls 8 [(0, .ref h_t), (1, .ref h_p1), (2, .ref h_p2), (3, .ref h_p3), (4, .int x4), (5, .int x5)] → W p l e R s m args below meth c H locs 0 0 Q (F0 m 41 ls []) := by
          intro x4 I41 m41 hB41 n
          induction n with
          | zero => intro x5 t_ahead t_now t_tallies H locs ls _ hm; exact absurd hm (Nat.not_lt_zero _)
          | succ n ih =>
            intro x5 t_ahead t_now t_tallies H locs ls hI hm hP hD hS hl
            obtain ⟨R41, h, rec41⟩ : ∃ R41 : Int32 → (Nat → Int32) → (Nat → Int32) → (Nat → Int32) → Prop, pX0_tally_41 t_width t_length t_word p1_n p1_cells p2_cells p3_modulus p3_values R14 K x4 x5 t_ahead t_now t_tallies R41 ∧ ∀ (x5 : Int32) (t_ahead : Nat → Int32) (t_now : Nat → Int32) (t_tallies : Nat → Int32) (H : Heap) (locs : List Loc) (ls : Array Slot), R41 x5 t_ahead t_now t_tallies → va_P G vwCl (w_X0_tally Y h_t h_p1 h_p2 h_p3 B_t B_p1 B_p2 B_p3 t_width t_length t_ahead t_now t_tallies t_word p1_n p1_cells p2_n p2_cells p3_modulus p3_values) H → va_D A (w_X0_tally Y h_t h_p1 h_p2 h_p3 B_t B_p1 B_p2 B_p3 t_width t_length t_ahead t_now t_tallies t_word p1_n p1_cells p2_n p2_cells p3_modulus p3_values) → va_S A s.heap H locs → lv_has ls 8 [(0, .ref h_t), (1, .ref h_p1), (2, .ref h_p2), (3, .ref h_p3), (4, .int x4), (5, .int x5)] → W p l e R s m args below meth c H locs 0 0 Q (F0 m 41 ls []) := ⟨_, hB41 x5 t_ahead t_now t_tallies hI, fun x5 t_ahead t_now t_tallies H locs ls hh hP hD hS hl => ih x5 t_ahead t_now t_tallies H locs ls hh.1 (Nat.lt_of_lt_of_le hh.2 (Nat.le_of_lt_succ hm)) hP hD hS hl⟩
            refine lv_iload hx hb dX0_tally_41 (lv_at hl 5 rfl) ?_
            refine lv_iload hx hb dX0_tally_43 (lv_at hl 4 rfl) ?_
            obtain ⟨ht, hf⟩ := h
            refine lv_icmp_ge (tgt := 155) hx hb dX0_tally_45 (by decide) (fun c9 => ?_) (fun c9 => ?_)
            · have h := ht c9
              exact hret t_ahead t_now t_tallies H locs ls _ hP hD hS h dX0_tally_155
            · have h := hf c9
              refine lv_aload_n hx hb dX0_tally_48 rfl (lv_at hl 0 rfl) ?_
              refine lv_iload hx hb dX0_tally_49 (lv_at hl 5 rfl) ?_
              refine lv_aload_n hx hb dX0_tally_51 rfl (lv_at hl 1 rfl) ?_
              refine va_getN (D := G) (ci := 6) (v := .int p1_n) (C := RX7) (T := TX7) (N := 2) hx hb hts inX7 hown hK hP 5 rfl rfl 1 (by decide) (hE.nest args 5 _ rfl) (fun _ h9 => h9) rfl dX0_tally_52 ?_
              refine mc_vV ⟨hx, hb, hml, hown, hts⟩ hK hE hA hP hD hS (c_X0_spread l G Y tF H.size h_t B_t t_width t_length t_ahead t_now x5 p1_n h) (cwV 2 hts gX0_tally_X0_spread rfl rfl rfl (by decide +kernel) ⟨Nat.le_trans (by decide) hRf, Nat.le_trans (by decide) hRl⟩) (fun u => (w_X0_tally Y h_t h_p1 h_p2 h_p3 B_t B_p1 B_p2 B_p3 t_width t_length u.1 u.2 t_tallies t_word p1_n p1_cells p2_n p2_cells p3_modulus p3_values)) [0, 1, 2] [3, 4, 5, 6, 7, 8, 9, 10] [8, 9, 10, 0, 1, 2, 3, 4, 5, 6, 7] rfl rfl rfl rfl (by decide) (fun _ => rfl) rfl 0 0 rfl rfl rfl rfl hl.1 rfl (Nat.le_of_ble_eq_true rfl) dX0_tally_55 (fun u H locs h hP hD hS => ?_)
              obtain ⟨t_ahead_55, t_now_55⟩ := u
              try dsimp only at h
              have hP : va_P G vwCl (w_X0_tally Y h_t h_p1 h_p2 h_p3 B_t B_p1 B_p2 B_p3 t_width t_length t_ahead_55 t_now_55 t_tallies t_word p1_n p1_cells p2_n p2_cells p3_modulus p3_values) H := hP
              have hD : va_D A (w_X0_tally Y h_t h_p1 h_p2 h_p3 B_t B_p1 B_p2 B_p3 t_width t_length t_ahead_55 t_now_55 t_tallies t_word p1_n p1_cells p2_n p2_cells p3_modulus p3_values) := hD
              refine lv_iconst (v := 0) hx hb dX0_tally_58 (by decide) ?_
              refine lv_istore (lv' := [(6, .int (0 : Int32)), (0, .ref h_t), (1, .ref h_p1), (2, .ref h_p2), (3, .ref h_p3), (4, .int x4), (5, .int x5)]) hx hb dX0_tally_59 hl (by decide) rfl (fun ls hl => ?_)
              refine lv_iconst (v := 0) hx hb dX0_tally_61 (by decide) ?_
              refine lv_istore (lv' := [(7, .int (0 : Int32)), (6, .int (0 : Int32)), (0, .ref h_t), (1, .ref h_p1), (2, .ref h_p2), (3, .ref h_p3), (4, .int x4), (5, .int x5)]) hx hb dX0_tally_62 hl (by decide) rfl (fun ls hl => ?_)
              obtain ⟨I64, m64, hI64, hB64⟩ := h
              have L64 : ∀ (x5 : Int32) (t_ahead : Nat → Int32) (t_tallies : Nat → Int32) (I64 : Int32 → Int32 → (Nat → Int32) → Prop) (m64 : Int32 → Int32 → (Nat → Int32) → Nat), (∀ (x6 : Int32) (x7 : Int32) (t_now : Nat → Int32), I64 x6 x7 t_now → pX0_tally_64 t_width t_length t_word p1_n p1_cells p2_cells p3_modulus p3_values R41 K x4 x5 t_ahead t_tallies x6 x7 t_now (fun x6' x7' t_now' => I64 x6' x7' t_now' ∧ m64 x6' x7' t_now' < m64 x6 x7 t_now)) → ∀ (n : Nat) (x6 : Int32) (x7 : Int32) (t_now : Nat → Int32) (H : Heap) (locs : List Loc) (ls : Array Slot), I64 x6 x7 t_now → m64 x6 x7 t_now < n → va_P G vwCl (w_X0_tally Y h_t h_p1 h_p2 h_p3 B_t B_p1 B_p2 B_p3 t_width t_length t_ahead t_now t_tallies t_word p1_n p1_cells p2_n p2_cells p3_modulus p3_values) H → va_D A (w_X0_tally Y h_t h_p1 h_p2 h_p3 B_t B_p1 B_p2 B_p3 t_width t_length t_ahead t_now t_tallies t_word p1_n p1_cells p2_n p2_cells p3_modulus p3_values) → va_S A s.heap H locs → lv_has ls 8 [(0, .ref h_t), (1, .ref h_p1), (2, .ref h_p2), (3, .ref h_p3), (4, .int x4), (5, .int x5), (6, .int x6), (7, .int x7)] → W p l e R s m args below meth c H locs 0 0 Q (F0 m 64 ls []) := by
                intro x5 t_ahead t_tallies I64 m64 hB64 n
                induction n with
                | zero => intro x6 x7 t_now H locs ls _ hm; exact absurd hm (Nat.not_lt_zero _)
                | succ n ih =>
                  intro x6 x7 t_now H locs ls hI hm hP hD hS hl
                  obtain ⟨R64, h, rec64⟩ : ∃ R64 : Int32 → Int32 → (Nat → Int32) → Prop, pX0_tally_64 t_width t_length t_word p1_n p1_cells p2_cells p3_modulus p3_values R41 K x4 x5 t_ahead t_tallies x6 x7 t_now R64 ∧ ∀ (x6 : Int32) (x7 : Int32) (t_now : Nat → Int32) (H : Heap) (locs : List Loc) (ls : Array Slot), R64 x6 x7 t_now → va_P G vwCl (w_X0_tally Y h_t h_p1 h_p2 h_p3 B_t B_p1 B_p2 B_p3 t_width t_length t_ahead t_now t_tallies t_word p1_n p1_cells p2_n p2_cells p3_modulus p3_values) H → va_D A (w_X0_tally Y h_t h_p1 h_p2 h_p3 B_t B_p1 B_p2 B_p3 t_width t_length t_ahead t_now t_tallies t_word p1_n p1_cells p2_n p2_cells p3_modulus p3_values) → va_S A s.heap H locs → lv_has ls 8 [(0, .ref h_t), (1, .ref h_p1), (2, .ref h_p2), (3, .ref h_p3), (4, .int x4), (5, .int x5), (6, .int x6), (7, .int x7)] → W p l e R s m args below meth c H locs 0 0 Q (F0 m 64 ls []) := ⟨_, hB64 x6 x7 t_now hI, fun x6 x7 t_now H locs ls hh hP hD hS hl => ih x6 x7 t_now H locs ls hh.1 (Nat.lt_of_lt_of_le hh.2 (Nat.le_of_lt_succ hm)) hP hD hS hl⟩
                  refine lv_iload hx hb dX0_tally_64 (lv_at hl 7 rfl) ?_
                  refine lv_aload_n hx hb dX0_tally_66 rfl (lv_at hl 0 rfl) ?_
                  refine va_get (D := G) (ci := 0) (v := .int t_length) (C := RX0) (T := TX0) (N := 6) hx hb hts inX0 hown hK hP 0 rfl rfl 5 (by decide) hf28 (fun _ h9 => h9) rfl dX0_tally_67 ?_
                  obtain ⟨ht, hf⟩ := h
                  refine lv_icmp_ge (tgt := 124) hx hb dX0_tally_70 (by decide) (fun c9 => ?_) (fun c9 => ?_)
                  · have h := ht c9
                    refine lv_aload_n hx hb dX0_tally_124 rfl (lv_at hl 0 rfl) ?_
                    refine mc_iV ⟨hx, hb, hml, hown, hts⟩ hK hE hA hP hD hS (c_X0_isAsAhead l G Y tF H.size h_t B_t t_width t_length t_ahead t_now h) (cwV 0 hts gX0_tally_X0_isAsAhead rfl rfl rfl (by decide +kernel) ⟨Nat.le_trans (by decide) hRf, Nat.le_trans (by decide) hRl⟩) (fun u => (w_X0_tally Y h_t h_p1 h_p2 h_p3 B_t B_p1 B_p2 B_p3 t_width t_length t_ahead t_now t_tallies t_word p1_n p1_cells p2_n p2_cells p3_modulus p3_values)) [0, 1, 2] [3, 4, 5, 6, 7, 8, 9, 10] [8, 9, 10, 0, 1, 2, 3, 4, 5, 6, 7] rfl rfl rfl rfl (by decide) (fun _ => rfl) rfl 0 0 rfl rfl rfl rfl hl.1 rfl (Nat.le_of_ble_eq_true rfl) dX0_tally_125 (fun r125 u H locs h hP hD hS => ?_)
                    try dsimp only at h
                    have hP : va_P G vwCl (w_X0_tally Y h_t h_p1 h_p2 h_p3 B_t B_p1 B_p2 B_p3 t_width t_length t_ahead t_now t_tallies t_word p1_n p1_cells p2_n p2_cells p3_modulus p3_values) H := hP
                    have hD : va_D A (w_X0_tally Y h_t h_p1 h_p2 h_p3 B_t B_p1 B_p2 B_p3 t_width t_length t_ahead t_now t_tallies t_word p1_n p1_cells p2_n p2_cells p3_modulus p3_values) := hD
                    obtain ⟨ht, hf⟩ := h
                    refine lv_if_eq (tgt := 149) hx hb dX0_tally_128 (by decide) (fun c9 => ?_) (fun c9 => ?_)
                    · have h := ht c9
                      refine lv_iinc (v := (x5 + 1)) (lv' := [(5, .int (x5 + 1)), (0, .ref h_t), (1, .ref h_p1), (2, .ref h_p2), (3, .ref h_p3), (4, .int x4), (6, .int x6), (7, .int x7)]) hx hb dX0_tally_149 hl (k := 5) rfl rfl (by decide) rfl (fun ls hl => ?_)
                      refine lv_goto (tgt := 41) hx hb dX0_tally_152 (by decide) ?_
                      exact rec41 (x5 + 1) t_ahead t_now t_tallies H locs ls h hP hD hS (lv_sub hl [1, 2, 3, 4, 5, 0] rfl)
                    · have h := hf c9
                      refine lv_aload_n hx hb dX0_tally_131 rfl (lv_at hl 0 rfl) ?_
                      refine va_get (D := G) (ci := 0) (v := .ref (B_t 3)) (C := RX0) (T := TX0) (N := 6) hx hb hts inX0 hown hK hP 0 rfl rfl 3 (by decide) hf21 (fun _ h9 => h9) rfl dX0_tally_132 ?_
                      refine lv_iload hx hb dX0_tally_135 (lv_at hl 6 rfl) ?_
                      refine lv_aload_n hx hb dX0_tally_137 rfl (lv_at hl 3 rfl) ?_
                      refine va_getN (D := G) (ci := 8) (v := .int p3_modulus) (C := RX9) (T := TX9) (N := 2) hx hb hts inX9 hown hK hP 9 rfl rfl 1 (by decide) (hE.nest args 6 _ rfl) (fun _ h9 => h9) rfl dX0_tally_138 ?_
                      refine mc_iS ⟨hx, hb, hml, hown, hts⟩ hK hE hA hP hD hS (c_J9_floorMod_7cf53 l G Y tF H.size x6 p3_modulus h) (va_cwS 2 hts gX0_tally_J9_floorMod_7cf53 rfl rfl rfl (by decide +kernel) ⟨Nat.le_trans (by decide) hRf, Nat.le_trans (by decide) hRl⟩) (fun u => (w_X0_tally Y h_t h_p1 h_p2 h_p3 B_t B_p1 B_p2 B_p3 t_width t_length t_ahead t_now t_tallies t_word p1_n p1_cells p2_n p2_cells p3_modulus p3_values)) [] [0, 1, 2, 3, 4, 5, 6, 7, 8, 9, 10] [0, 1, 2, 3, 4, 5, 6, 7, 8, 9, 10] rfl rfl rfl rfl (by decide) (fun _ => rfl) rfl rfl hl.1 rfl (Nat.le_of_ble_eq_true rfl) dX0_tally_141 (fun r141 u H locs h hP hD hS => ?_)
                      try dsimp only at h
                      have hP : va_P G vwCl (w_X0_tally Y h_t h_p1 h_p2 h_p3 B_t B_p1 B_p2 B_p3 t_width t_length t_ahead t_now t_tallies t_word p1_n p1_cells p2_n p2_cells p3_modulus p3_values) H := hP
                      have hD : va_D A (w_X0_tally Y h_t h_p1 h_p2 h_p3 B_t B_p1 B_p2 B_p3 t_width t_length t_ahead t_now t_tallies t_word p1_n p1_cells p2_n p2_cells p3_modulus p3_values) := hD
                      refine lv_dup2_11 hx hb dX0_tally_144 rfl rfl ?_
                      obtain ⟨hin, h⟩ := h
                      refine va_iald hx hb hK hP 3 0 rfl rfl hin dX0_tally_145 ?_
                      refine lv_iconst (v := 1) hx hb dX0_tally_146 (by decide) ?_
                      refine lv_iadd hx hb dX0_tally_147 ?_
                      obtain ⟨hin, h⟩ := h
                      refine va_iast hx hb hK hP hD hS 3 0 rfl rfl hin dX0_tally_148 (fun H locs hP hD hS => ?_)
                      have hP : va_P G vwCl (w_X0_tally Y h_t h_p1 h_p2 h_p3 B_t B_p1 B_p2 B_p3 t_width t_length t_ahead t_now (upd t_tallies (Int32.toNatClampNeg r141) ((t_tallies (Int32.toNatClampNeg r141)) + (1 : Int32))) t_word p1_n p1_cells p2_n p2_cells p3_modulus p3_values) H := hP
                      have hD : va_D A (w_X0_tally Y h_t h_p1 h_p2 h_p3 B_t B_p1 B_p2 B_p3 t_width t_length t_ahead t_now (upd t_tallies (Int32.toNatClampNeg r141) ((t_tallies (Int32.toNatClampNeg r141)) + (1 : Int32))) t_word p1_n p1_cells p2_n p2_cells p3_modulus p3_values) := hD
                      refine lv_iinc (v := (x5 + 1)) (lv' := [(5, .int (x5 + 1)), (0, .ref h_t), (1, .ref h_p1), (2, .ref h_p2), (3, .ref h_p3), (4, .int x4), (6, .int x6), (7, .int x7)]) hx hb dX0_tally_149 hl (k := 5) rfl rfl (by decide) rfl (fun ls hl => ?_)
                      refine lv_goto (tgt := 41) hx hb dX0_tally_152 (by decide) ?_
                      exact rec41 (x5 + 1) t_ahead t_now (upd t_tallies (Int32.toNatClampNeg r141) ((t_tallies (Int32.toNatClampNeg r141)) + (1 : Int32))) H locs ls h hP hD hS (lv_sub hl [1, 2, 3, 4, 5, 0] rfl)
                  · have h := hf c9
                    refine lv_iload hx hb dX0_tally_73 (lv_at hl 6 rfl) ?_
                    refine lv_aload_n hx hb dX0_tally_75 rfl (lv_at hl 0 rfl) ?_
                    refine va_get (D := G) (ci := 0) (v := .ref (B_t 0)) (C := RX0) (T := TX0) (N := 6) hx hb hts inX0 hown hK hP 0 rfl rfl 0 (by decide) hf9 (fun _ h9 => h9) rfl dX0_tally_76 ?_
                    refine lv_iload hx hb dX0_tally_79 (lv_at hl 7 rfl) ?_
                    obtain ⟨hin, h⟩ := h
                    refine va_iald hx hb hK hP 4 0 rfl rfl hin dX0_tally_81 ?_
                    obtain ⟨ht, hf⟩ := h
                    refine lv_if_le (tgt := 101) hx hb dX0_tally_82 (by decide) (fun c9 => ?_) (fun c9 => ?_)
                    · have h := ht c9
                      refine lv_aload_n hx hb dX0_tally_101 rfl (lv_at hl 0 rfl) ?_
                      refine lv_aload_n hx hb dX0_tally_102 rfl (lv_at hl 0 rfl) ?_
                      refine va_get (D := G) (ci := 0) (v := .ref (B_t 0)) (C := RX0) (T := TX0) (N := 6) hx hb hts inX0 hown hK hP 0 rfl rfl 0 (by decide) hf9 (fun _ h9 => h9) rfl dX0_tally_103 ?_
                      refine lv_iload hx hb dX0_tally_106 (lv_at hl 7 rfl) ?_
                      obtain ⟨hin, h⟩ := h
                      refine va_iald hx hb hK hP 4 0 rfl rfl hin dX0_tally_108 ?_
                      refine lv_ineg hx hb dX0_tally_109 ?_
                      refine lv_aload_n hx hb dX0_tally_110 rfl (lv_at hl 2 rfl) ?_
                      refine lv_aload_n hx hb dX0_tally_111 rfl (lv_at hl 3 rfl) ?_
                      refine mc_iV ⟨hx, hb, hml, hown, hts⟩ hK hE hA hP hD hS (c_X0_uncross l G Y tF H.size h_t h_p2 h_p3 B_t B_p2 B_p3 t_width t_length t_now p2_n p2_cells p3_modulus p3_values (-(t_word (Int32.toNatClampNeg x7))) h) (cwV 3 hts gX0_tally_X0_uncross rfl rfl rfl (by decide +kernel) ⟨Nat.le_trans (by decide) hRf, Nat.le_trans (by decide) hRl⟩) (fun u => (w_X0_tally Y h_t h_p1 h_p2 h_p3 B_t B_p1 B_p2 B_p3 t_width t_length t_ahead u t_tallies t_word p1_n p1_cells p2_n p2_cells p3_modulus p3_values)) [0, 2, 7, 8, 9, 10] [1, 3, 4, 5, 6] [5, 0, 6, 1, 2, 3, 4, 7, 8, 9, 10] rfl rfl rfl rfl (by decide) (fun _ => rfl) rfl 0 0 rfl rfl rfl rfl hl.1 rfl (Nat.le_of_ble_eq_true rfl) dX0_tally_112 (fun r112 u H locs h hP hD hS => ?_)
                      obtain ⟨t_now_112, rfl⟩ : ∃ z, z = u := ⟨_, rfl⟩
                      try dsimp only at h
                      have hP : va_P G vwCl (w_X0_tally Y h_t h_p1 h_p2 h_p3 B_t B_p1 B_p2 B_p3 t_width t_length t_ahead t_now_112 t_tallies t_word p1_n p1_cells p2_n p2_cells p3_modulus p3_values) H := hP
                      have hD : va_D A (w_X0_tally Y h_t h_p1 h_p2 h_p3 B_t B_p1 B_p2 B_p3 t_width t_length t_ahead t_now_112 t_tallies t_word p1_n p1_cells p2_n p2_cells p3_modulus p3_values) := hD
                      refine lv_iadd hx hb dX0_tally_115 ?_
                      refine lv_istore (lv' := [(6, .int (x6 + r112)), (0, .ref h_t), (1, .ref h_p1), (2, .ref h_p2), (3, .ref h_p3), (4, .int x4), (5, .int x5), (7, .int x7)]) hx hb dX0_tally_116 hl (by decide) rfl (fun ls hl => ?_)
                      refine lv_iinc (v := (x7 + 1)) (lv' := [(7, .int (x7 + 1)), (6, .int (x6 + r112)), (0, .ref h_t), (1, .ref h_p1), (2, .ref h_p2), (3, .ref h_p3), (4, .int x4), (5, .int x5)]) hx hb dX0_tally_118 hl (k := 7) rfl rfl (by decide) rfl (fun ls hl => ?_)
                      refine lv_goto (tgt := 64) hx hb dX0_tally_121 (by decide) ?_
                      exact rec64 (x6 + r112) (x7 + 1) t_now_112 H locs ls h hP hD hS (lv_sub hl [2, 3, 4, 5, 6, 7, 1, 0] rfl)
                    · have h := hf c9
                      refine lv_aload_n hx hb dX0_tally_85 rfl (lv_at hl 0 rfl) ?_
                      refine lv_aload_n hx hb dX0_tally_86 rfl (lv_at hl 0 rfl) ?_
                      refine va_get (D := G) (ci := 0) (v := .ref (B_t 0)) (C := RX0) (T := TX0) (N := 6) hx hb hts inX0 hown hK hP 0 rfl rfl 0 (by decide) hf9 (fun _ h9 => h9) rfl dX0_tally_87 ?_
                      refine lv_iload hx hb dX0_tally_90 (lv_at hl 7 rfl) ?_
                      obtain ⟨hin, h⟩ := h
                      refine va_iald hx hb hK hP 4 0 rfl rfl hin dX0_tally_92 ?_
                      refine lv_aload_n hx hb dX0_tally_93 rfl (lv_at hl 1 rfl) ?_
                      refine lv_aload_n hx hb dX0_tally_94 rfl (lv_at hl 3 rfl) ?_
                      refine mc_iV ⟨hx, hb, hml, hown, hts⟩ hK hE hA hP hD hS (c_X0_cross l G Y tF H.size h_t h_p1 h_p3 B_t B_p1 B_p3 t_width t_length t_now p1_n p1_cells p3_modulus p3_values (t_word (Int32.toNatClampNeg x7)) h) (cwV 3 hts gX0_tally_X0_cross rfl rfl rfl (by decide +kernel) ⟨Nat.le_trans (by decide) hRf, Nat.le_trans (by decide) hRl⟩) (fun u => (w_X0_tally Y h_t h_p1 h_p2 h_p3 B_t B_p1 B_p2 B_p3 t_width t_length t_ahead u t_tallies t_word p1_n p1_cells p2_n p2_cells p3_modulus p3_values)) [0, 2, 5, 6, 9, 10] [1, 3, 4, 7, 8] [5, 0, 6, 1, 2, 7, 8, 3, 4, 9, 10] rfl rfl rfl rfl (by decide) (fun _ => rfl) rfl 0 0 rfl rfl rfl rfl hl.1 rfl (Nat.le_of_ble_eq_true rfl) dX0_tally_95 (fun r95 u H locs h hP hD hS => ?_)
                      obtain ⟨t_now_95, rfl⟩ : ∃ z, z = u := ⟨_, rfl⟩
                      try dsimp only at h
                      have hP : va_P G vwCl (w_X0_tally Y h_t h_p1 h_p2 h_p3 B_t B_p1 B_p2 B_p3 t_width t_length t_ahead t_now_95 t_tallies t_word p1_n p1_cells p2_n p2_cells p3_modulus p3_values) H := hP
                      have hD : va_D A (w_X0_tally Y h_t h_p1 h_p2 h_p3 B_t B_p1 B_p2 B_p3 t_width t_length t_ahead t_now_95 t_tallies t_word p1_n p1_cells p2_n p2_cells p3_modulus p3_values) := hD
                      refine lv_goto (tgt := 115) hx hb dX0_tally_98 (by decide) ?_
                      refine lv_iadd hx hb dX0_tally_115 ?_
                      refine lv_istore (lv' := [(6, .int (x6 + r95)), (0, .ref h_t), (1, .ref h_p1), (2, .ref h_p2), (3, .ref h_p3), (4, .int x4), (5, .int x5), (7, .int x7)]) hx hb dX0_tally_116 hl (by decide) rfl (fun ls hl => ?_)
                      refine lv_iinc (v := (x7 + 1)) (lv' := [(7, .int (x7 + 1)), (6, .int (x6 + r95)), (0, .ref h_t), (1, .ref h_p1), (2, .ref h_p2), (3, .ref h_p3), (4, .int x4), (5, .int x5)]) hx hb dX0_tally_118 hl (k := 7) rfl rfl (by decide) rfl (fun ls hl => ?_)
                      refine lv_goto (tgt := 64) hx hb dX0_tally_121 (by decide) ?_
                      exact rec64 (x6 + r95) (x7 + 1) t_now_95 H locs ls h hP hD hS (lv_sub hl [2, 3, 4, 5, 6, 7, 1, 0] rfl)
              exact L64 x5 t_ahead_55 t_tallies I64 m64 hB64 _ (0 : Int32) (0 : Int32) t_now_55 H locs ls hI64 (Nat.lt_succ_self _) hP hD hS (lv_sub hl [2, 3, 4, 5, 6, 7, 1, 0] rfl)
        exact L41 x4 I41 m41 hB41 _ (0 : Int32) t_ahead t_now t_tallies H locs ls hI41 (Nat.lt_succ_self _) hP hD hS (lv_sub hl [1, 2, 3, 4, 5, 0] rfl)
      · have h := hf c9
        refine lv_iload hx hb dX0_tally_23 (lv_at hl 4 rfl) ?_
        refine lv_aload_n hx hb dX0_tally_25 rfl (lv_at hl 1 rfl) ?_
        refine va_getN (D := G) (ci := 6) (v := .int p1_n) (C := RX7) (T := TX7) (N := 2) hx hb hts inX7 hown hK hP 5 rfl rfl 1 (by decide) (hE.nest args 5 _ rfl) (fun _ h9 => h9) rfl dX0_tally_26 ?_
        refine lv_imul hx hb dX0_tally_29 ?_
        refine lv_istore (lv' := [(4, .int (x4 * p1_n)), (0, .ref h_t), (1, .ref h_p1), (2, .ref h_p2), (3, .ref h_p3), (5, .int x5)]) hx hb dX0_tally_30 hl (by decide) rfl (fun ls hl => ?_)
        refine lv_iinc (v := (x5 + 1)) (lv' := [(5, .int (x5 + 1)), (4, .int (x4 * p1_n)), (0, .ref h_t), (1, .ref h_p1), (2, .ref h_p2), (3, .ref h_p3)]) hx hb dX0_tally_32 hl (k := 5) rfl rfl (by decide) rfl (fun ls hl => ?_)
        refine lv_goto (tgt := 14) hx hb dX0_tally_35 (by decide) ?_
        exact rec14 (x4 * p1_n) (x5 + 1) H locs ls h hP hD hS (lv_sub hl [2, 3, 4, 5, 1, 0] rfl)
  exact L14 t_ahead t_now t_tallies_5 I14 m14 hB14 _ (1 : Int32) (0 : Int32) H locs ls hI14 (Nat.lt_succ_self _) hP hD hS (lv_sub hl [2, 3, 4, 5, 1, 0] rfl)

set_option maxHeartbeats 4000000 in
set_option maxRecDepth 100000 in
theorem c_X0_tally (l : Launch) (G : va_G) (Y : Nat → ClassId) (tF sz : Nat) (h_t : Nat) (h_p1 : Nat) (h_p2 : Nat) (h_p3 : Nat) (B_t : Nat → Nat) (B_p1 : Nat → Nat) (B_p2 : Nat → Nat) (B_p3 : Nat → Nat) (t_width : Int32) (t_length : Int32) (t_ahead : Nat → Int32) (t_now : Nat → Int32) (t_tallies : Nat → Int32) (t_word : Nat → Int32) (p1_n : Int32) (p1_cells : Nat → Int32) (p2_n : Int32) (p2_cells : Nat → Int32) (p3_modulus : Int32) (p3_values : Nat → Int32) {K : (Nat → Int32) → (Nat → Int32) → (Nat → Int32) → Prop} (h : pX0_tally t_width t_length t_ahead t_now t_tallies t_word p1_n p1_cells p2_cells p3_modulus p3_values K) : Met l yX0_tally wsX0_tally ({ frames := 2, cells := 0, slots := 0, locals := 48 }) (PcM G Y tF sz (w_X0_tally Y h_t h_p1 h_p2 h_p3 B_t B_p1 B_p2 B_p3 t_width t_length t_ahead t_now t_tallies t_word p1_n p1_cells p2_n p2_cells p3_modulus p3_values) [.ref h_t, .ref h_p1, .ref h_p2, .ref h_p3]) (va_Qv (fun u : (Nat → Int32) × (Nat → Int32) × (Nat → Int32) => K u.1 u.2.1 u.2.2) (fun u t => BM G Y (va_A (w_X0_tally Y h_t h_p1 h_p2 h_p3 B_t B_p1 B_p2 B_p3 t_width t_length t_ahead t_now t_tallies t_word p1_n p1_cells p2_n p2_cells p3_modulus p3_values) sz) (w_X0_tally Y h_t h_p1 h_p2 h_p3 B_t B_p1 B_p2 B_p3 t_width t_length u.1 u.2.1 u.2.2 t_word p1_n p1_cells p2_n p2_cells p3_modulus p3_values) t) (va_A (w_X0_tally Y h_t h_p1 h_p2 h_p3 B_t B_p1 B_p2 B_p3 t_width t_length t_ahead t_now t_tallies t_word p1_n p1_cells p2_n p2_cells p3_modulus p3_values) sz)) 0 0 (va_A (w_X0_tally Y h_t h_p1 h_p2 h_p3 B_t B_p1 B_p2 B_p3 t_width t_length t_ahead t_now t_tallies t_word p1_n p1_cells p2_n p2_cells p3_modulus p3_values) sz) := by
  refine Met.ofW (cc := cX0_tally) (maxL := 8) (ret := none) (by decide +kernel) rfl ?_
  intro p e s m args below meth c s₁ B hml hv
  obtain ⟨rfl, hsz, hP, hK, hD0, hE⟩ := hv
  have hts := atoms_spec (ws := wsX0_tally) B.pre
  have hown : s.vm.findClass RX0 = some m.cls := findClass_of_methodNamed B.named
  have hlocks := B.notSynchronized
  subst hsz
  have hD := hD0.self (sz := s.heap.size)
  exact wk_X0_tally h_t h_p1 h_p2 h_p3 B_t B_p1 B_p2 B_p3 t_width t_length t_ahead t_now t_tallies t_word p1_n p1_cells p2_n p2_cells p3_modulus p3_values B.exec B.bytes hml hown hts hK hE (fun q h => Or.inr h) (Nat.le_refl _) (Nat.le_refl _) (fun t_ahead t_now t_tallies H locs ls pc hP hD hS hk hd => W.vret B.exec B.bytes B.returns (fun t ht hW => ⟨⟨(t_ahead, t_now, t_tallies), rfl, hk, by rw [ht]; exact hP, va_K.moved hW.alike hK, hD⟩, hS.F ht⟩) hS.2.2 hd) hP hD h

abbrev w_X6_addTerm (Y : Nat → ClassId) (h_t : Nat) (B_t : Nat → Nat) (t_things : Int32) (t_unknowns : Int32) (t_prime : Int32) (t_leads : Int64) (t_equation : Nat → Int32) : va_W := [(h_t, .inr (5, [.ref (B_t 0), .ref (B_t 1), .int t_things, .int t_unknowns, .int t_prime, .long t_leads])), ((B_t 1), .inl (Y 0, 64, .inl t_equation))]

set_option maxHeartbeats 4000000 in
set_option maxRecDepth 100000 in
theorem wk_X6_addTerm {p : Program} {l : Launch} {e : Env} {R : Room} {s : State} {m : MethodId} {args : Array Value} {below : List Frame} {meth : Method} {c : Code} {Q : State → Prop} {G : va_G} {Y : Nat → ClassId} {tF : Nat} {A : Nat → Prop} (h_t : Nat) (B_t : Nat → Nat) (t_things : Int32) (t_unknowns : Int32) (t_prime : Int32) (t_leads : Int64) (t_equation : Nat → Int32) (x1 : Int32) (x2 : Int32) (x3 : Int32) {K : (Nat → Int32) → Prop} (hx : p.tables.exec = Jvm.exec) (hb : c.code = cX6_addTerm) (hml : c.maxLocals = 5) (hown : s.vm.findClass RX6 = some m.cls) (hts : ∀ w ∈ wsX6_addTerm, w.before args s = true) (hK : va_K G vwCl (tyL Y) s) (hE : Ev A tF s) (hA : ∀ q, s.heap.size ≤ q → A q) (hRf : 0 ≤ R.frames) (hRl : 0 ≤ R.locals) (hret : ∀ (t_equation : Nat → Int32) (H : Heap) (locs : List Loc) (ls : Array Slot) (pc : Nat), va_P G vwCl (w_X6_addTerm Y h_t B_t t_things t_unknowns t_prime t_leads t_equation) H → va_D A (w_X6_addTerm Y h_t B_t t_things t_unknowns t_prime t_leads t_equation) → va_S A s.heap H locs → K t_equation → decode cX6_addTerm pc = .ok (.return_, 1) → W p l e R s m args below meth c H locs 0 0 Q (F0 m pc ls [])) (hP : va_P G vwCl (w_X6_addTerm Y h_t B_t t_things t_unknowns t_prime t_leads t_equation) s.heap) (hD : va_D A (w_X6_addTerm Y h_t B_t t_things t_unknowns t_prime t_leads t_equation)) (h : pX6_addTerm t_things t_prime t_equation x1 x2 x3 K) : W p l e R s m args below meth c s.heap [] 0 0 Q (entryFrame m ([.ref h_t, .int x1, .int x2, .int x3] : List Value).toArray 5) := by
  have inX6 : ∀ w ∈ u_ws RX6 TX6 6, w ∈ wsX6_addTerm := by decide +kernel
  have hf15 := hts (.fieldLink RX6 15 "RackBench$Solver" "equation" "[I") (by decide +kernel)
  have hf18 := hts (.fieldLink RX6 18 "RackBench$Solver" "things" "I") (by decide +kernel)
  have hf25 := hts (.fieldLink RX6 25 "RackBench$Solver" "prime" "I") (by decide +kernel)
  have hl := lv_entry ([.ref h_t, .int x1, .int x2, .int x3]) (n := 5) (Nat.le_of_ble_eq_true rfl)
  rw [lg_entry_eq]
  generalize (lg_sl ([.ref h_t, .int x1, .int x2, .int x3]) ++ List.replicate (5 - (lg_sl ([.ref h_t, .int x1, .int x2, .int x3])).length) Slot.unset).toArray = ls at hl ⊢
  have hl : lv_has ls 5 [(0, .ref h_t), (1, .int x1), (2, .int x2), (3, .int x3)] := hl
  generalize hH0 : s.heap = H at hP ⊢
  have hS : va_S A s.heap H [] := by rw [← hH0]; exact va_S.rf
  clear hH0
  generalize ([] : List Loc) = locs at hS ⊢
  refine lv_iload_n hx hb dX6_addTerm_0 rfl (lv_at hl 1 rfl) ?_
  refine lv_aload_n hx hb dX6_addTerm_1 rfl (lv_at hl 0 rfl) ?_
  refine va_get (D := G) (ci := 5) (v := .int t_things) (C := RX6) (T := TX6) (N := 6) hx hb hts inX6 hown hK hP 0 rfl rfl 2 (by decide) hf18 (fun _ h9 => h9) rfl dX6_addTerm_2 ?_
  refine lv_imul hx hb dX6_addTerm_5 ?_
  refine lv_iload_n hx hb dX6_addTerm_6 rfl (lv_at hl 2 rfl) ?_
  refine lv_iadd hx hb dX6_addTerm_7 ?_
  refine lv_istore (lv' := [(4, .int ((x1 * t_things) + x2)), (0, .ref h_t), (1, .int x1), (2, .int x2), (3, .int x3)]) hx hb dX6_addTerm_8 hl (by decide) rfl (fun ls hl => ?_)
  refine lv_aload_n hx hb dX6_addTerm_10 rfl (lv_at hl 1 rfl) ?_
  refine va_get (D := G) (ci := 5) (v := .ref (B_t 1)) (C := RX6) (T := TX6) (N := 6) hx hb hts inX6 hown hK hP 0 rfl rfl 1 (by decide) hf15 (fun _ h9 => h9) rfl dX6_addTerm_11 ?_
  refine lv_iload hx hb dX6_addTerm_14 (lv_at hl 0 rfl) ?_
  refine lv_aload_n hx hb dX6_addTerm_16 rfl (lv_at hl 1 rfl) ?_
  refine va_get (D := G) (ci := 5) (v := .ref (B_t 1)) (C := RX6) (T := TX6) (N := 6) hx hb hts inX6 hown hK hP 0 rfl rfl 1 (by decide) hf15 (fun _ h9 => h9) rfl dX6_addTerm_17 ?_
  refine lv_iload hx hb dX6_addTerm_20 (lv_at hl 0 rfl) ?_
  obtain ⟨hin, h⟩ := h
  refine va_iald hx hb hK hP 1 0 rfl rfl hin dX6_addTerm_22 ?_
  refine lv_iload_n hx hb dX6_addTerm_23 rfl (lv_at hl 4 rfl) ?_
  refine lv_iadd hx hb dX6_addTerm_24 ?_
  refine lv_aload_n hx hb dX6_addTerm_25 rfl (lv_at hl 1 rfl) ?_
  refine va_get (D := G) (ci := 5) (v := .int t_prime) (C := RX6) (T := TX6) (N := 6) hx hb hts inX6 hown hK hP 0 rfl rfl 4 (by decide) hf25 (fun _ h9 => h9) rfl dX6_addTerm_26 ?_
  obtain ⟨hne, h⟩ := h
  refine lv_irem hx hb dX6_addTerm_29 hne ?_
  obtain ⟨hin, h⟩ := h
  refine va_iast hx hb hK hP hD hS 1 0 rfl rfl hin dX6_addTerm_30 (fun H locs hP hD hS => ?_)
  have hP : va_P G vwCl (w_X6_addTerm Y h_t B_t t_things t_unknowns t_prime t_leads (upd t_equation (Int32.toNatClampNeg ((x1 * t_things) + x2)) (((t_equation (Int32.toNatClampNeg ((x1 * t_things) + x2))) + x3) - ((t_equation (Int32.toNatClampNeg ((x1 * t_things) + x2))) + x3) / t_prime * t_prime))) H := hP
  have hD : va_D A (w_X6_addTerm Y h_t B_t t_things t_unknowns t_prime t_leads (upd t_equation (Int32.toNatClampNeg ((x1 * t_things) + x2)) (((t_equation (Int32.toNatClampNeg ((x1 * t_things) + x2))) + x3) - ((t_equation (Int32.toNatClampNeg ((x1 * t_things) + x2))) + x3) / t_prime * t_prime))) := hD
  exact hret (upd t_equation (Int32.toNatClampNeg ((x1 * t_things) + x2)) (((t_equation (Int32.toNatClampNeg ((x1 * t_things) + x2))) + x3) - ((t_equation (Int32.toNatClampNeg ((x1 * t_things) + x2))) + x3) / t_prime * t_prime)) H locs ls _ hP hD hS h dX6_addTerm_31

set_option maxHeartbeats 4000000 in
set_option maxRecDepth 100000 in
theorem c_X6_addTerm (l : Launch) (G : va_G) (Y : Nat → ClassId) (tF sz : Nat) (h_t : Nat) (B_t : Nat → Nat) (t_things : Int32) (t_unknowns : Int32) (t_prime : Int32) (t_leads : Int64) (t_equation : Nat → Int32) (x1 : Int32) (x2 : Int32) (x3 : Int32) {K : (Nat → Int32) → Prop} (h : pX6_addTerm t_things t_prime t_equation x1 x2 x3 K) : Met l yX6_addTerm wsX6_addTerm ({ frames := 0, cells := 0, slots := 0, locals := 0 }) (PcM G Y tF sz (w_X6_addTerm Y h_t B_t t_things t_unknowns t_prime t_leads t_equation) [.ref h_t, .int x1, .int x2, .int x3]) (va_Qv (fun u : (Nat → Int32) => K u) (fun u t => BM G Y (va_A (w_X6_addTerm Y h_t B_t t_things t_unknowns t_prime t_leads t_equation) sz) (w_X6_addTerm Y h_t B_t t_things t_unknowns t_prime t_leads u) t) (va_A (w_X6_addTerm Y h_t B_t t_things t_unknowns t_prime t_leads t_equation) sz)) 0 0 (va_A (w_X6_addTerm Y h_t B_t t_things t_unknowns t_prime t_leads t_equation) sz) := by
  refine Met.ofW (cc := cX6_addTerm) (maxL := 5) (ret := none) (by decide +kernel) rfl ?_
  intro p e s m args below meth c s₁ B hml hv
  obtain ⟨rfl, hsz, hP, hK, hD0, hE⟩ := hv
  have hts := atoms_spec (ws := wsX6_addTerm) B.pre
  have hown : s.vm.findClass RX6 = some m.cls := findClass_of_methodNamed B.named
  have hlocks := B.notSynchronized
  subst hsz
  have hD := hD0.self (sz := s.heap.size)
  exact wk_X6_addTerm h_t B_t t_things t_unknowns t_prime t_leads t_equation x1 x2 x3 B.exec B.bytes hml hown hts hK hE (fun q h => Or.inr h) (Nat.le_refl _) (Nat.le_refl _) (fun t_equation H locs ls pc hP hD hS hk hd => W.vret B.exec B.bytes B.returns (fun t ht hW => ⟨⟨t_equation, rfl, hk, by rw [ht]; exact hP, va_K.moved hW.alike hK, hD⟩, hS.F ht⟩) hS.2.2 hd) hP hD h

abbrev w_X6_tellEquation (Y : Nat → ClassId) (h_t : Nat) (h_p1 : Nat) (B_t : Nat → Nat) (B_p1 : Nat → Nat) (t_things : Int32) (t_unknowns : Int32) (t_prime : Int32) (t_leads : Int64) (t_equation : Nat → Int32) (p1_n : Int32) (p1_cells : Nat → Int32) : va_W := [(h_t, .inr (5, [.ref (B_t 0), .ref (B_t 1), .int t_things, .int t_unknowns, .int t_prime, .long t_leads])), ((B_t 1), .inl (Y 0, 64, .inl t_equation)), (h_p1, .inr (6, [.ref (B_p1 0), .int p1_n])), ((B_p1 0), .inl (Y 0, 64, .inl p1_cells))]

set_option maxHeartbeats 4000000 in
set_option maxRecDepth 100000 in
theorem wk_X6_tellEquation {p : Program} {l : Launch} {e : Env} {R : Room} {s : State} {m : MethodId} {args : Array Value} {below : List Frame} {meth : Method} {c : Code} {Q : State → Prop} {G : va_G} {Y : Nat → ClassId} {tF : Nat} {A : Nat → Prop} (h_t : Nat) (h_p1 : Nat) (B_t : Nat → Nat) (B_p1 : Nat → Nat) (t_things : Int32) (t_unknowns : Int32) (t_prime : Int32) (t_leads : Int64) (t_equation : Nat → Int32) (p1_n : Int32) (p1_cells : Nat → Int32) (x2 : Int32) (x3 : Int32) (x4 : Int32) {K : (Nat → Int32) → Prop} (hx : p.tables.exec = Jvm.exec) (hb : c.code = cX6_tellEquation) (hml : c.maxLocals = 5) (hown : s.vm.findClass RX6 = some m.cls) (hts : ∀ w ∈ wsX6_tellEquation, w.before args s = true) (hK : va_K G vwCl (tyL Y) s) (hE : Ev A tF s) (hA : ∀ q, s.heap.size ≤ q → A q) (hRf : 1 ≤ R.frames) (hRl : 24 ≤ R.locals) (hret : ∀ (t_equation : Nat → Int32) (H : Heap) (locs : List Loc) (ls : Array Slot) (pc : Nat), va_P G vwCl (w_X6_tellEquation Y h_t h_p1 B_t B_p1 t_things t_unknowns t_prime t_leads t_equation p1_n p1_cells) H → va_D A (w_X6_tellEquation Y h_t h_p1 B_t B_p1 t_things t_unknowns t_prime t_leads t_equation p1_n p1_cells) → va_S A s.heap H locs → K t_equation → decode cX6_tellEquation pc = .ok (.return_, 1) → W p l e R s m args below meth c H locs 0 0 Q (F0 m pc ls [])) (hP : va_P G vwCl (w_X6_tellEquation Y h_t h_p1 B_t B_p1 t_things t_unknowns t_prime t_leads t_equation p1_n p1_cells) s.heap) (hD : va_D A (w_X6_tellEquation Y h_t h_p1 B_t B_p1 t_things t_unknowns t_prime t_leads t_equation p1_n p1_cells)) (h : pX6_tellEquation t_things t_prime t_equation p1_cells x2 x3 x4 K) : W p l e R s m args below meth c s.heap [] 0 0 Q (entryFrame m ([.ref h_t, .ref h_p1, .int x2, .int x3, .int x4] : List Value).toArray 5) := by
  have inX6 : ∀ w ∈ u_ws RX6 TX6 6, w ∈ wsX6_tellEquation := by decide +kernel
  have hf15 := hts (.fieldLink RX6 15 "RackBench$Solver" "equation" "[I") (by decide +kernel)
  have hf25 := hts (.fieldLink RX6 25 "RackBench$Solver" "prime" "I") (by decide +kernel)
  have hl := lv_entry ([.ref h_t, .ref h_p1, .int x2, .int x3, .int x4]) (n := 5) (Nat.le_of_ble_eq_true rfl)
  rw [lg_entry_eq]
  generalize (lg_sl ([.ref h_t, .ref h_p1, .int x2, .int x3, .int x4]) ++ List.replicate (5 - (lg_sl ([.ref h_t, .ref h_p1, .int x2, .int x3, .int x4])).length) Slot.unset).toArray = ls at hl ⊢
  have hl : lv_has ls 5 [(0, .ref h_t), (1, .ref h_p1), (2, .int x2), (3, .int x3), (4, .int x4)] := hl
  generalize hH0 : s.heap = H at hP ⊢
  have hS : va_S A s.heap H [] := by rw [← hH0]; exact va_S.rf
  clear hH0
  generalize ([] : List Loc) = locs at hS ⊢
  refine lv_aload_n hx hb dX6_tellEquation_0 rfl (lv_at hl 0 rfl) ?_
  refine va_get (D := G) (ci := 5) (v := .ref (B_t 1)) (C := RX6) (T := TX6) (N := 6) hx hb hts inX6 hown hK hP 0 rfl rfl 1 (by decide) hf15 (fun _ h9 => h9) rfl dX6_tellEquation_1 ?_
  refine lv_iconst (v := 0) hx hb dX6_tellEquation_4 (by decide) ?_
  refine mc_vS ⟨hx, hb, hml, hown, hts⟩ hK hE hA hP hD hS (c_J7_fill_53178 l G Y tF H.size (B_t 1) 64 t_equation (0 : Int32) h) (va_cwS 2 hts gX6_tellEquation_J7_fill_53178 rfl rfl rfl (by decide +kernel) ⟨Nat.le_trans (by decide) hRf, Nat.le_trans (by decide) hRl⟩) (fun u => (w_X6_tellEquation Y h_t h_p1 B_t B_p1 t_things t_unknowns t_prime t_leads u p1_n p1_cells)) [1] [0, 2, 3] [0, 3, 1, 2] rfl rfl rfl rfl (by decide) (fun _ => rfl) rfl rfl hl.1 rfl (Nat.le_of_ble_eq_true rfl) dX6_tellEquation_5 (fun u H locs h hP hD hS => ?_)
  obtain ⟨t_equation_5, rfl⟩ : ∃ z, z = u := ⟨_, rfl⟩
  try dsimp only at h
  have hP : va_P G vwCl (w_X6_tellEquation Y h_t h_p1 B_t B_p1 t_things t_unknowns t_prime t_leads t_equation_5 p1_n p1_cells) H := hP
  have hD : va_D A (w_X6_tellEquation Y h_t h_p1 B_t B_p1 t_things t_unknowns t_prime t_leads t_equation_5 p1_n p1_cells) := hD
  refine lv_aload_n hx hb dX6_tellEquation_8 rfl (lv_at hl 0 rfl) ?_
  refine lv_iload_n hx hb dX6_tellEquation_9 rfl (lv_at hl 3 rfl) ?_
  refine lv_iload hx hb dX6_tellEquation_10 (lv_at hl 4 rfl) ?_
  refine lv_iconst (v := 1) hx hb dX6_tellEquation_12 (by decide) ?_
  refine mc_vV ⟨hx, hb, hml, hown, hts⟩ hK hE hA hP hD hS (c_X6_addTerm l G Y tF H.size h_t B_t t_things t_unknowns t_prime t_leads t_equation_5 x3 x4 (1 : Int32) h) (cwV 3 hts gX6_tellEquation_X6_addTerm rfl rfl rfl (by decide +kernel) ⟨Nat.le_trans (by decide) hRf, Nat.le_trans (by decide) hRl⟩) (fun u => (w_X6_tellEquation Y h_t h_p1 B_t B_p1 t_things t_unknowns t_prime t_leads u p1_n p1_cells)) [0, 1] [2, 3] [2, 3, 0, 1] rfl rfl rfl rfl (by decide) (fun _ => rfl) rfl 0 5 rfl rfl rfl rfl hl.1 rfl (Nat.le_of_ble_eq_true rfl) dX6_tellEquation_13 (fun u H locs h hP hD hS => ?_)
  obtain ⟨t_equation_13, rfl⟩ : ∃ z, z = u := ⟨_, rfl⟩
  try dsimp only at h
  have hP : va_P G vwCl (w_X6_tellEquation Y h_t h_p1 B_t B_p1 t_things t_unknowns t_prime t_leads t_equation_13 p1_n p1_cells) H := hP
  have hD : va_D A (w_X6_tellEquation Y h_t h_p1 B_t B_p1 t_things t_unknowns t_prime t_leads t_equation_13 p1_n p1_cells) := hD
  refine lv_aload_n hx hb dX6_tellEquation_16 rfl (lv_at hl 0 rfl) ?_
  refine lv_iload_n hx hb dX6_tellEquation_17 rfl (lv_at hl 2 rfl) ?_
  refine lv_aload_n hx hb dX6_tellEquation_18 rfl (lv_at hl 1 rfl) ?_
  refine lv_iload_n hx hb dX6_tellEquation_19 rfl (lv_at hl 3 rfl) ?_
  refine lv_iload hx hb dX6_tellEquation_20 (lv_at hl 4 rfl) ?_
  refine mc_iV ⟨hx, hb, hml, hown, hts⟩ hK hE hA hP hD hS (c_X7_turned l G Y tF H.size h_p1 B_p1 p1_n p1_cells x3 x4 h) (cwV 2 hts gX6_tellEquation_X7_turned rfl rfl rfl (by decide +kernel) ⟨Nat.le_trans (by decide) hRf, Nat.le_trans (by decide) hRl⟩) (fun u => (w_X6_tellEquation Y h_t h_p1 B_t B_p1 t_things t_unknowns t_prime t_leads t_equation_13 p1_n p1_cells)) [2, 3] [0, 1] [0, 1, 2, 3] rfl rfl rfl rfl (by decide) (fun _ => rfl) rfl 2 6 rfl rfl rfl rfl hl.1 rfl (Nat.le_of_ble_eq_true rfl) dX6_tellEquation_22 (fun r22 u H locs h hP hD hS => ?_)
  try dsimp only at h
  have hP : va_P G vwCl (w_X6_tellEquation Y h_t h_p1 B_t B_p1 t_things t_unknowns t_prime t_leads t_equation_13 p1_n p1_cells) H := hP
  have hD : va_D A (w_X6_tellEquation Y h_t h_p1 B_t B_p1 t_things t_unknowns t_prime t_leads t_equation_13 p1_n p1_cells) := hD
  refine lv_iconst (v := 1) hx hb dX6_tellEquation_25 (by decide) ?_
  refine mc_vV ⟨hx, hb, hml, hown, hts⟩ hK hE hA hP hD hS (c_X6_addTerm l G Y tF H.size h_t B_t t_things t_unknowns t_prime t_leads t_equation_13 x2 r22 (1 : Int32) h) (cwV 3 hts gX6_tellEquation_X6_addTerm rfl rfl rfl (by decide +kernel) ⟨Nat.le_trans (by decide) hRf, Nat.le_trans (by decide) hRl⟩) (fun u => (w_X6_tellEquation Y h_t h_p1 B_t B_p1 t_things t_unknowns t_prime t_leads u p1_n p1_cells)) [0, 1] [2, 3] [2, 3, 0, 1] rfl rfl rfl rfl (by decide) (fun _ => rfl) rfl 0 5 rfl rfl rfl rfl hl.1 rfl (Nat.le_of_ble_eq_true rfl) dX6_tellEquation_26 (fun u H locs h hP hD hS => ?_)
  obtain ⟨t_equation_26, rfl⟩ : ∃ z, z = u := ⟨_, rfl⟩
  try dsimp only at h
  have hP : va_P G vwCl (w_X6_tellEquation Y h_t h_p1 B_t B_p1 t_things t_unknowns t_prime t_leads t_equation_26 p1_n p1_cells) H := hP
  have hD : va_D A (w_X6_tellEquation Y h_t h_p1 B_t B_p1 t_things t_unknowns t_prime t_leads t_equation_26 p1_n p1_cells) := hD
  refine lv_aload_n hx hb dX6_tellEquation_29 rfl (lv_at hl 0 rfl) ?_
  refine lv_iload_n hx hb dX6_tellEquation_30 rfl (lv_at hl 2 rfl) ?_
  refine lv_iload hx hb dX6_tellEquation_31 (lv_at hl 4 rfl) ?_
  refine lv_aload_n hx hb dX6_tellEquation_33 rfl (lv_at hl 0 rfl) ?_
  refine va_get (D := G) (ci := 5) (v := .int t_prime) (C := RX6) (T := TX6) (N := 6) hx hb hts inX6 hown hK hP 0 rfl rfl 4 (by decide) hf25 (fun _ h9 => h9) rfl dX6_tellEquation_34 ?_
  refine lv_iconst (v := 1) hx hb dX6_tellEquation_37 (by decide) ?_
  refine lv_isub hx hb dX6_tellEquation_38 ?_
  refine mc_vV ⟨hx, hb, hml, hown, hts⟩ hK hE hA hP hD hS (c_X6_addTerm l G Y tF H.size h_t B_t t_things t_unknowns t_prime t_leads t_equation_26 x2 x4 (t_prime - (1 : Int32)) h) (cwV 3 hts gX6_tellEquation_X6_addTerm rfl rfl rfl (by decide +kernel) ⟨Nat.le_trans (by decide) hRf, Nat.le_trans (by decide) hRl⟩) (fun u => (w_X6_tellEquation Y h_t h_p1 B_t B_p1 t_things t_unknowns t_prime t_leads u p1_n p1_cells)) [0, 1] [2, 3] [2, 3, 0, 1] rfl rfl rfl rfl (by decide) (fun _ => rfl) rfl 0 5 rfl rfl rfl rfl hl.1 rfl (Nat.le_of_ble_eq_true rfl) dX6_tellEquation_39 (fun u H locs h hP hD hS => ?_)
  obtain ⟨t_equation_39, rfl⟩ : ∃ z, z = u := ⟨_, rfl⟩
  try dsimp only at h
  have hP : va_P G vwCl (w_X6_tellEquation Y h_t h_p1 B_t B_p1 t_things t_unknowns t_prime t_leads t_equation_39 p1_n p1_cells) H := hP
  have hD : va_D A (w_X6_tellEquation Y h_t h_p1 B_t B_p1 t_things t_unknowns t_prime t_leads t_equation_39 p1_n p1_cells) := hD
  refine lv_aload_n hx hb dX6_tellEquation_42 rfl (lv_at hl 0 rfl) ?_
  refine lv_aload_n hx hb dX6_tellEquation_43 rfl (lv_at hl 1 rfl) ?_
  refine lv_iload_n hx hb dX6_tellEquation_44 rfl (lv_at hl 2 rfl) ?_
  refine lv_iload_n hx hb dX6_tellEquation_45 rfl (lv_at hl 3 rfl) ?_
  refine mc_iV ⟨hx, hb, hml, hown, hts⟩ hK hE hA hP hD hS (c_X7_turned l G Y tF H.size h_p1 B_p1 p1_n p1_cells x2 x3 h) (cwV 2 hts gX6_tellEquation_X7_turned rfl rfl rfl (by decide +kernel) ⟨Nat.le_trans (by decide) hRf, Nat.le_trans (by decide) hRl⟩) (fun u => (w_X6_tellEquation Y h_t h_p1 B_t B_p1 t_things t_unknowns t_prime t_leads t_equation_39 p1_n p1_cells)) [2, 3] [0, 1] [0, 1, 2, 3] rfl rfl rfl rfl (by decide) (fun _ => rfl) rfl 2 6 rfl rfl rfl rfl hl.1 rfl (Nat.le_of_ble_eq_true rfl) dX6_tellEquation_46 (fun r46 u H locs h hP hD hS => ?_)
  try dsimp only at h
  have hP : va_P G vwCl (w_X6_tellEquation Y h_t h_p1 B_t B_p1 t_things t_unknowns t_prime t_leads t_equation_39 p1_n p1_cells) H := hP
  have hD : va_D A (w_X6_tellEquation Y h_t h_p1 B_t B_p1 t_things t_unknowns t_prime t_leads t_equation_39 p1_n p1_cells) := hD
  refine lv_aload_n hx hb dX6_tellEquation_49 rfl (lv_at hl 1 rfl) ?_
  refine lv_iload_n hx hb dX6_tellEquation_50 rfl (lv_at hl 2 rfl) ?_
  refine lv_iload hx hb dX6_tellEquation_51 (lv_at hl 4 rfl) ?_
  refine mc_iV ⟨hx, hb, hml, hown, hts⟩ hK hE hA hP hD hS (c_X7_turned l G Y tF H.size h_p1 B_p1 p1_n p1_cells x2 x4 h) (cwV 2 hts gX6_tellEquation_X7_turned rfl rfl rfl (by decide +kernel) ⟨Nat.le_trans (by decide) hRf, Nat.le_trans (by decide) hRl⟩) (fun u => (w_X6_tellEquation Y h_t h_p1 B_t B_p1 t_things t_unknowns t_prime t_leads t_equation_39 p1_n p1_cells)) [2, 3] [0, 1] [0, 1, 2, 3] rfl rfl rfl rfl (by decide) (fun _ => rfl) rfl 2 6 rfl rfl rfl rfl hl.1 rfl (Nat.le_of_ble_eq_true rfl) dX6_tellEquation_53 (fun r53 u H locs h hP hD hS => ?_)
  try dsimp only at h
  have hP : va_P G vwCl (w_X6_tellEquation Y h_t h_p1 B_t B_p1 t_things t_unknowns t_prime t_leads t_equation_39 p1_n p1_cells) H := hP
  have hD : va_D A (w_X6_tellEquation Y h_t h_p1 B_t B_p1 t_things t_unknowns t_prime t_leads t_equation_39 p1_n p1_cells) := hD
  refine lv_aload_n hx hb dX6_tellEquation_56 rfl (lv_at hl 0 rfl) ?_
  refine va_get (D := G) (ci := 5) (v := .int t_prime) (C := RX6) (T := TX6) (N := 6) hx hb hts inX6 hown hK hP 0 rfl rfl 4 (by decide) hf25 (fun _ h9 => h9) rfl dX6_tellEquation_57 ?_
  refine lv_iconst (v := 1) hx hb dX6_tellEquation_60 (by decide) ?_
  refine lv_isub hx hb dX6_tellEquation_61 ?_
  refine mc_vV ⟨hx, hb, hml, hown, hts⟩ hK hE hA hP hD hS (c_X6_addTerm l G Y tF H.size h_t B_t t_things t_unknowns t_prime t_leads t_equation_39 r46 r53 (t_prime - (1 : Int32)) h) (cwV 3 hts gX6_tellEquation_X6_addTerm rfl rfl rfl (by decide +kernel) ⟨Nat.le_trans (by decide) hRf, Nat.le_trans (by decide) hRl⟩) (fun u => (w_X6_tellEquation Y h_t h_p1 B_t B_p1 t_things t_unknowns t_prime t_leads u p1_n p1_cells)) [0, 1] [2, 3] [2, 3, 0, 1] rfl rfl rfl rfl (by decide) (fun _ => rfl) rfl 0 5 rfl rfl rfl rfl hl.1 rfl (Nat.le_of_ble_eq_true rfl) dX6_tellEquation_62 (fun u H locs h hP hD hS => ?_)
  obtain ⟨t_equation_62, rfl⟩ : ∃ z, z = u := ⟨_, rfl⟩
  try dsimp only at h
  have hP : va_P G vwCl (w_X6_tellEquation Y h_t h_p1 B_t B_p1 t_things t_unknowns t_prime t_leads t_equation_62 p1_n p1_cells) H := hP
  have hD : va_D A (w_X6_tellEquation Y h_t h_p1 B_t B_p1 t_things t_unknowns t_prime t_leads t_equation_62 p1_n p1_cells) := hD
  exact hret t_equation_62 H locs ls _ hP hD hS h dX6_tellEquation_65

set_option maxHeartbeats 4000000 in
set_option maxRecDepth 100000 in
theorem c_X6_tellEquation (l : Launch) (G : va_G) (Y : Nat → ClassId) (tF sz : Nat) (h_t : Nat) (h_p1 : Nat) (B_t : Nat → Nat) (B_p1 : Nat → Nat) (t_things : Int32) (t_unknowns : Int32) (t_prime : Int32) (t_leads : Int64) (t_equation : Nat → Int32) (p1_n : Int32) (p1_cells : Nat → Int32) (x2 : Int32) (x3 : Int32) (x4 : Int32) {K : (Nat → Int32) → Prop} (h : pX6_tellEquation t_things t_prime t_equation p1_cells x2 x3 x4 K) : Met l yX6_tellEquation wsX6_tellEquation ({ frames := 1, cells := 0, slots := 0, locals := 24 }) (PcM G Y tF sz (w_X6_tellEquation Y h_t h_p1 B_t B_p1 t_things t_unknowns t_prime t_leads t_equation p1_n p1_cells) [.ref h_t, .ref h_p1, .int x2, .int x3, .int x4]) (va_Qv (fun u : (Nat → Int32) => K u) (fun u t => BM G Y (va_A (w_X6_tellEquation Y h_t h_p1 B_t B_p1 t_things t_unknowns t_prime t_leads t_equation p1_n p1_cells) sz) (w_X6_tellEquation Y h_t h_p1 B_t B_p1 t_things t_unknowns t_prime t_leads u p1_n p1_cells) t) (va_A (w_X6_tellEquation Y h_t h_p1 B_t B_p1 t_things t_unknowns t_prime t_leads t_equation p1_n p1_cells) sz)) 0 0 (va_A (w_X6_tellEquation Y h_t h_p1 B_t B_p1 t_things t_unknowns t_prime t_leads t_equation p1_n p1_cells) sz) := by
  refine Met.ofW (cc := cX6_tellEquation) (maxL := 5) (ret := none) (by decide +kernel) rfl ?_
  intro p e s m args below meth c s₁ B hml hv
  obtain ⟨rfl, hsz, hP, hK, hD0, hE⟩ := hv
  have hts := atoms_spec (ws := wsX6_tellEquation) B.pre
  have hown : s.vm.findClass RX6 = some m.cls := findClass_of_methodNamed B.named
  have hlocks := B.notSynchronized
  subst hsz
  have hD := hD0.self (sz := s.heap.size)
  exact wk_X6_tellEquation h_t h_p1 B_t B_p1 t_things t_unknowns t_prime t_leads t_equation p1_n p1_cells x2 x3 x4 B.exec B.bytes hml hown hts hK hE (fun q h => Or.inr h) (Nat.le_refl _) (Nat.le_refl _) (fun t_equation H locs ls pc hP hD hS hk hd => W.vret B.exec B.bytes B.returns (fun t ht hW => ⟨⟨t_equation, rfl, hk, by rw [ht]; exact hP, va_K.moved hW.alike hK, hD⟩, hS.F ht⟩) hS.2.2 hd) hP hD h

abbrev w_X6_inverse (Y : Nat → ClassId) (h_t : Nat) (B_t : Nat → Nat) (t_things : Int32) (t_unknowns : Int32) (t_prime : Int32) (t_leads : Int64) : va_W := [(h_t, .inr (5, [.ref (B_t 0), .ref (B_t 1), .int t_things, .int t_unknowns, .int t_prime, .long t_leads]))]

set_option maxHeartbeats 4000000 in
set_option maxRecDepth 100000 in
theorem wk_X6_inverse {p : Program} {l : Launch} {e : Env} {R : Room} {s : State} {m : MethodId} {args : Array Value} {below : List Frame} {meth : Method} {c : Code} {Q : State → Prop} {G : va_G} {Y : Nat → ClassId} {tF : Nat} {A : Nat → Prop} (h_t : Nat) (B_t : Nat → Nat) (t_things : Int32) (t_unknowns : Int32) (t_prime : Int32) (t_leads : Int64) (x1 : Int32) {K : Int32 → Prop} (hx : p.tables.exec = Jvm.exec) (hb : c.code = cX6_inverse) (hml : c.maxLocals = 3) (hown : s.vm.findClass RX6 = some m.cls) (hts : ∀ w ∈ wsX6_inverse, w.before args s = true) (hK : va_K G vwCl (tyL Y) s) (hE : Ev A tF s) (hA : ∀ q, s.heap.size ≤ q → A q) (hRf : 0 ≤ R.frames) (hRl : 0 ≤ R.locals) (hret : ∀ (r : Int32)  (H : Heap) (locs : List Loc) (ls : Array Slot) (pc : Nat), va_P G vwCl (w_X6_inverse Y h_t B_t t_things t_unknowns t_prime t_leads) H → va_D A (w_X6_inverse Y h_t B_t t_things t_unknowns t_prime t_leads) → va_S A s.heap H locs → K r → decode cX6_inverse pc = .ok (.ireturn, 1) → W p l e R s m args below meth c H locs 0 0 Q (F0 m pc ls [.int r])) (hP : va_P G vwCl (w_X6_inverse Y h_t B_t t_things t_unknowns t_prime t_leads) s.heap) (hD : va_D A (w_X6_inverse Y h_t B_t t_things t_unknowns t_prime t_leads)) (h : pX6_inverse t_prime x1 K) : W p l e R s m args below meth c s.heap [] 0 0 Q (entryFrame m ([.ref h_t, .int x1] : List Value).toArray 3) := by
  have inX6 : ∀ w ∈ u_ws RX6 TX6 6, w ∈ wsX6_inverse := by decide +kernel
  have hf25 := hts (.fieldLink RX6 25 "RackBench$Solver" "prime" "I") (by decide +kernel)
  have hl := lv_entry ([.ref h_t, .int x1]) (n := 3) (Nat.le_of_ble_eq_true rfl)
  rw [lg_entry_eq]
  generalize (lg_sl ([.ref h_t, .int x1]) ++ List.replicate (3 - (lg_sl ([.ref h_t, .int x1])).length) Slot.unset).toArray = ls at hl ⊢
  have hl : lv_has ls 3 [(0, .ref h_t), (1, .int x1)] := hl
  generalize hH0 : s.heap = H at hP ⊢
  have hS : va_S A s.heap H [] := by rw [← hH0]; exact va_S.rf
  clear hH0
  generalize ([] : List Loc) = locs at hS ⊢
  refine lv_iconst (v := 1) hx hb dX6_inverse_0 (by decide) ?_
  refine lv_istore_n (lv' := [(2, .int (1 : Int32)), (0, .ref h_t), (1, .int x1)]) hx hb dX6_inverse_1 rfl hl (by decide) rfl (fun ls hl => ?_)
  obtain ⟨I2, m2, hI2, hB2⟩ := h
  have L2 : ∀ (x1 : Int32) (I2 : Int32 → Prop) (m2 : Int32 → Nat), (∀ (x2 : Int32), I2 x2 → pX6_inverse_2 t_prime K x1 x2 (fun x2' => I2 x2' ∧ m2 x2' < m2 x2)) → ∀ (n : Nat) (x2 : Int32) (H : Heap) (locs : List Loc) (ls : Array Slot), I2 x2 → m2 x2 < n → va_P G vwCl (w_X6_inverse Y h_t B_t t_things t_unknowns t_prime t_leads) H → va_D A (w_X6_inverse Y h_t B_t t_things t_unknowns t_prime t_leads) → va_S A s.heap H locs → lv_has ls 3 [(0, .ref h_t), (1, .int x1), (2, .int x2)] → W p l e R s m args below meth c H locs 0 0 Q (F0 m 2 ls []) := by
    intro x1 I2 m2 hB2 n
    induction n with
    | zero => intro x2 H locs ls _ hm; exact absurd hm (Nat.not_lt_zero _)
    | succ n ih =>
      intro x2 H locs ls hI hm hP hD hS hl
      obtain ⟨R2, h, rec2⟩ : ∃ R2 : Int32 → Prop, pX6_inverse_2 t_prime K x1 x2 R2 ∧ ∀ (x2 : Int32) (H : Heap) (locs : List Loc) (ls : Array Slot), R2 x2 → va_P G vwCl (w_X6_inverse Y h_t B_t t_things t_unknowns t_prime t_leads) H → va_D A (w_X6_inverse Y h_t B_t t_things t_unknowns t_prime t_leads) → va_S A s.heap H locs → lv_has ls 3 [(0, .ref h_t), (1, .int x1), (2, .int x2)] → W p l e R s m args below meth c H locs 0 0 Q (F0 m 2 ls []) := ⟨_, hB2 x2 hI, fun x2 H locs ls hh hP hD hS hl => ih x2 H locs ls hh.1 (Nat.lt_of_lt_of_le hh.2 (Nat.le_of_lt_succ hm)) hP hD hS hl⟩
      refine lv_iload_n hx hb dX6_inverse_2 rfl (lv_at hl 2 rfl) ?_
      refine lv_aload_n hx hb dX6_inverse_3 rfl (lv_at hl 0 rfl) ?_
      refine va_get (D := G) (ci := 5) (v := .int t_prime) (C := RX6) (T := TX6) (N := 6) hx hb hts inX6 hown hK hP 0 rfl rfl 4 (by decide) hf25 (fun _ h9 => h9) rfl dX6_inverse_4 ?_
      obtain ⟨ht, hf⟩ := h
      refine lv_icmp_ge (tgt := 30) hx hb dX6_inverse_7 (by decide) (fun c9 => ?_) (fun c9 => ?_)
      · have h := ht c9
        refine lv_iconst (v := 1) hx hb dX6_inverse_30 (by decide) ?_
        exact hret (1 : Int32)  H locs ls _ hP hD hS h dX6_inverse_31
      · have h := hf c9
        refine lv_iload_n hx hb dX6_inverse_10 rfl (lv_at hl 1 rfl) ?_
        refine lv_iload_n hx hb dX6_inverse_11 rfl (lv_at hl 2 rfl) ?_
        refine lv_imul hx hb dX6_inverse_12 ?_
        refine lv_aload_n hx hb dX6_inverse_13 rfl (lv_at hl 0 rfl) ?_
        refine va_get (D := G) (ci := 5) (v := .int t_prime) (C := RX6) (T := TX6) (N := 6) hx hb hts inX6 hown hK hP 0 rfl rfl 4 (by decide) hf25 (fun _ h9 => h9) rfl dX6_inverse_14 ?_
        obtain ⟨hne, h⟩ := h
        refine lv_irem hx hb dX6_inverse_17 hne ?_
        refine lv_iconst (v := 1) hx hb dX6_inverse_18 (by decide) ?_
        obtain ⟨ht, hf⟩ := h
        refine lv_icmp_ne (tgt := 24) hx hb dX6_inverse_19 (by decide) (fun c9 => ?_) (fun c9 => ?_)
        · have h := ht c9
          refine lv_iinc (v := (x2 + 1)) (lv' := [(2, .int (x2 + 1)), (0, .ref h_t), (1, .int x1)]) hx hb dX6_inverse_24 hl (k := 2) rfl rfl (by decide) rfl (fun ls hl => ?_)
          refine lv_goto (tgt := 2) hx hb dX6_inverse_27 (by decide) ?_
          exact rec2 (x2 + 1) H locs ls h hP hD hS (lv_sub hl [1, 2, 0] rfl)
        · have h := hf c9
          refine lv_iload_n hx hb dX6_inverse_22 rfl (lv_at hl 2 rfl) ?_
          exact hret x2  H locs ls _ hP hD hS h dX6_inverse_23
  exact L2 x1 I2 m2 hB2 _ (1 : Int32) H locs ls hI2 (Nat.lt_succ_self _) hP hD hS (lv_sub hl [1, 2, 0] rfl)

set_option maxHeartbeats 4000000 in
set_option maxRecDepth 100000 in
theorem c_X6_inverse (l : Launch) (G : va_G) (Y : Nat → ClassId) (tF sz : Nat) (h_t : Nat) (B_t : Nat → Nat) (t_things : Int32) (t_unknowns : Int32) (t_prime : Int32) (t_leads : Int64) (x1 : Int32) {K : Int32 → Prop} (h : pX6_inverse t_prime x1 K) : Met l yX6_inverse wsX6_inverse ({ frames := 0, cells := 0, slots := 0, locals := 0 }) (PcM G Y tF sz (w_X6_inverse Y h_t B_t t_things t_unknowns t_prime t_leads) [.ref h_t, .int x1]) (va_Qi (fun (r : Int32) (u : Unit) => K r ) (fun u t => BM G Y (va_A (w_X6_inverse Y h_t B_t t_things t_unknowns t_prime t_leads) sz) (w_X6_inverse Y h_t B_t t_things t_unknowns t_prime t_leads) t) (va_A (w_X6_inverse Y h_t B_t t_things t_unknowns t_prime t_leads) sz)) 0 0 (va_A (w_X6_inverse Y h_t B_t t_things t_unknowns t_prime t_leads) sz) := by
  refine Met.ofW (cc := cX6_inverse) (maxL := 3) (ret := (some .int)) (by decide +kernel) rfl ?_
  intro p e s m args below meth c s₁ B hml hv
  obtain ⟨rfl, hsz, hP, hK, hD0, hE⟩ := hv
  have hts := atoms_spec (ws := wsX6_inverse) B.pre
  have hown : s.vm.findClass RX6 = some m.cls := findClass_of_methodNamed B.named
  have hlocks := B.notSynchronized
  subst hsz
  have hD := hD0.self (sz := s.heap.size)
  exact wk_X6_inverse h_t B_t t_things t_unknowns t_prime t_leads x1 B.exec B.bytes hml hown hts hK hE (fun q h => Or.inr h) (Nat.le_refl _) (Nat.le_refl _) (fun r  H locs ls pc hP hD hS hk hd => W.iret (v := r) B.exec B.bytes B.returns (fun t ht hW => ⟨⟨r, (), rfl, hk, by rw [ht]; exact hP, va_K.moved hW.alike hK, hD⟩, hS.F ht⟩) hS.2.2 hd) hP hD h

abbrev w_X6_keepStep (Y : Nat → ClassId) (h_t : Nat) (B_t : Nat → Nat) (t_things : Int32) (t_unknowns : Int32) (t_prime : Int32) (t_leads : Int64) (t_equation : Nat → Int32) (t_steps : Nat → Int32) : va_W := [(h_t, .inr (5, [.ref (B_t 0), .ref (B_t 1), .int t_things, .int t_unknowns, .int t_prime, .long t_leads])), ((B_t 1), .inl (Y 0, 64, .inl t_equation)), ((B_t 0), .inl (Y 0, 4096, .inl t_steps))]

set_option maxHeartbeats 4000000 in
set_option maxRecDepth 100000 in
theorem wk_X6_keepStep {p : Program} {l : Launch} {e : Env} {R : Room} {s : State} {m : MethodId} {args : Array Value} {below : List Frame} {meth : Method} {c : Code} {Q : State → Prop} {G : va_G} {Y : Nat → ClassId} {tF : Nat} {A : Nat → Prop} (h_t : Nat) (B_t : Nat → Nat) (t_things : Int32) (t_unknowns : Int32) (t_prime : Int32) (t_leads : Int64) (t_equation : Nat → Int32) (t_steps : Nat → Int32) (x1 : Int32) {K : (Nat → Int32) → Prop} (hx : p.tables.exec = Jvm.exec) (hb : c.code = cX6_keepStep) (hml : c.maxLocals = 4) (hown : s.vm.findClass RX6 = some m.cls) (hts : ∀ w ∈ wsX6_keepStep, w.before args s = true) (hK : va_K G vwCl (tyL Y) s) (hE : Ev A tF s) (hA : ∀ q, s.heap.size ≤ q → A q) (hRf : 1 ≤ R.frames) (hRl : 22 ≤ R.locals) (hret : ∀ (t_steps : Nat → Int32) (H : Heap) (locs : List Loc) (ls : Array Slot) (pc : Nat), va_P G vwCl (w_X6_keepStep Y h_t B_t t_things t_unknowns t_prime t_leads t_equation t_steps) H → va_D A (w_X6_keepStep Y h_t B_t t_things t_unknowns t_prime t_leads t_equation t_steps) → va_S A s.heap H locs → K t_steps → decode cX6_keepStep pc = .ok (.return_, 1) → W p l e R s m args below meth c H locs 0 0 Q (F0 m pc ls [])) (hP : va_P G vwCl (w_X6_keepStep Y h_t B_t t_things t_unknowns t_prime t_leads t_equation t_steps) s.heap) (hD : va_D A (w_X6_keepStep Y h_t B_t t_things t_unknowns t_prime t_leads t_equation t_steps)) (h : pX6_keepStep t_unknowns t_prime t_equation t_steps x1 K) : W p l e R s m args below meth c s.heap [] 0 0 Q (entryFrame m ([.ref h_t, .int x1] : List Value).toArray 4) := by
  have inX6 : ∀ w ∈ u_ws RX6 TX6 6, w ∈ wsX6_keepStep := by decide +kernel
  have hf15 := hts (.fieldLink RX6 15 "RackBench$Solver" "equation" "[I") (by decide +kernel)
  have hf22 := hts (.fieldLink RX6 22 "RackBench$Solver" "unknowns" "I") (by decide +kernel)
  have hf25 := hts (.fieldLink RX6 25 "RackBench$Solver" "prime" "I") (by decide +kernel)
  have hf9 := hts (.fieldLink RX6 9 "RackBench$Solver" "steps" "[I") (by decide +kernel)
  have hl := lv_entry ([.ref h_t, .int x1]) (n := 4) (Nat.le_of_ble_eq_true rfl)
  rw [lg_entry_eq]
  generalize (lg_sl ([.ref h_t, .int x1]) ++ List.replicate (4 - (lg_sl ([.ref h_t, .int x1])).length) Slot.unset).toArray = ls at hl ⊢
  have hl : lv_has ls 4 [(0, .ref h_t), (1, .int x1)] := hl
  generalize hH0 : s.heap = H at hP ⊢
  have hS : va_S A s.heap H [] := by rw [← hH0]; exact va_S.rf
  clear hH0
  generalize ([] : List Loc) = locs at hS ⊢
  refine lv_aload_n hx hb dX6_keepStep_0 rfl (lv_at hl 0 rfl) ?_
  refine lv_aload_n hx hb dX6_keepStep_1 rfl (lv_at hl 0 rfl) ?_
  refine va_get (D := G) (ci := 5) (v := .ref (B_t 1)) (C := RX6) (T := TX6) (N := 6) hx hb hts inX6 hown hK hP 0 rfl rfl 1 (by decide) hf15 (fun _ h9 => h9) rfl dX6_keepStep_2 ?_
  refine lv_iload_n hx hb dX6_keepStep_5 rfl (lv_at hl 1 rfl) ?_
  obtain ⟨hin, h⟩ := h
  refine va_iald hx hb hK hP 1 0 rfl rfl hin dX6_keepStep_6 ?_
  refine mc_iV ⟨hx, hb, hml, hown, hts⟩ hK hE hA hP hD hS (c_X6_inverse l G Y tF H.size h_t B_t t_things t_unknowns t_prime t_leads (t_equation (Int32.toNatClampNeg x1)) h) (cwV 1 hts gX6_keepStep_X6_inverse rfl rfl rfl (by decide +kernel) ⟨Nat.le_trans (by decide) hRf, Nat.le_trans (by decide) hRl⟩) (fun u => (w_X6_keepStep Y h_t B_t t_things t_unknowns t_prime t_leads t_equation t_steps)) [0] [1, 2] [2, 0, 1] rfl rfl rfl rfl (by decide) (fun _ => rfl) rfl 0 5 rfl rfl rfl rfl hl.1 rfl (Nat.le_of_ble_eq_true rfl) dX6_keepStep_7 (fun r7 u H locs h hP hD hS => ?_)
  try dsimp only at h
  have hP : va_P G vwCl (w_X6_keepStep Y h_t B_t t_things t_unknowns t_prime t_leads t_equation t_steps) H := hP
  have hD : va_D A (w_X6_keepStep Y h_t B_t t_things t_unknowns t_prime t_leads t_equation t_steps) := hD
  refine lv_istore_n (lv' := [(2, .int r7), (0, .ref h_t), (1, .int x1)]) hx hb dX6_keepStep_10 rfl hl (by decide) rfl (fun ls hl => ?_)
  refine lv_iload_n hx hb dX6_keepStep_11 rfl (lv_at hl 2 rfl) ?_
  refine lv_istore_n (lv' := [(3, .int x1), (2, .int r7), (0, .ref h_t), (1, .int x1)]) hx hb dX6_keepStep_12 rfl hl (by decide) rfl (fun ls hl => ?_)
  obtain ⟨I13, m13, hI13, hB13⟩ := h
  have L13 : ∀ (x1 : Int32) (x2 : Int32) (I13 : Int32 → (Nat → Int32) → Prop) (m13 : Int32 → (Nat → Int32) → Nat), (∀ (x3 : Int32) (t_steps : Nat → Int32), I13 x3 t_steps → pX6_keepStep_13 t_unknowns t_prime t_equation K x1 x2 x3 t_steps (fun x3' t_steps' => I13 x3' t_steps' ∧ m13 x3' t_steps' < m13 x3 t_steps)) → ∀ (n : Nat) (x3 : Int32) (t_steps : Nat → Int32) (H : Heap) (locs : List Loc) (ls : Array Slot), I13 x3 t_steps → m13 x3 t_steps < n → va_P G vwCl (w_X6_keepStep Y h_t B_t t_things t_unknowns t_prime t_leads t_equation t_steps) H → va_D A (w_X6_keepStep Y h_t B_t t_things t_unknowns t_prime t_leads t_equation t_steps) → va_S A s.heap H locs → lv_has ls 4 [(0, .ref h_t), (1, .int x1), (2, .int x2), (3, .int x3)] → W p l e R s m args below meth c H locs 0 0 Q (F0 m 13 ls []) := by
    intro x1 x2 I13 m13 hB13 n
    induction n with
    | zero => intro x3 t_steps H locs ls _ hm; exact absurd hm (Nat.not_lt_zero _)
    | succ n ih =>
      intro x3 t_steps H locs ls hI hm hP hD hS hl
      obtain ⟨R13, h, rec13⟩ : ∃ R13 : Int32 → (Nat → Int32) → Prop, pX6_keepStep_13 t_unknowns t_prime t_equation K x1 x2 x3 t_steps R13 ∧ ∀ (x3 : Int32) (t_steps : Nat → Int32) (H : Heap) (locs : List Loc) (ls : Array Slot), R13 x3 t_steps → va_P G vwCl (w_X6_keepStep Y h_t B_t t_things t_unknowns t_prime t_leads t_equation t_steps) H → va_D A (w_X6_keepStep Y h_t B_t t_things t_unknowns t_prime t_leads t_equation t_steps) → va_S A s.heap H locs → lv_has ls 4 [(0, .ref h_t), (1, .int x1), (2, .int x2), (3, .int x3)] → W p l e R s m args below meth c H locs 0 0 Q (F0 m 13 ls []) := ⟨_, hB13 x3 t_steps hI, fun x3 t_steps H locs ls hh hP hD hS hl => ih x3 t_steps H locs ls hh.1 (Nat.lt_of_lt_of_le hh.2 (Nat.le_of_lt_succ hm)) hP hD hS hl⟩
      refine lv_iload_n hx hb dX6_keepStep_13 rfl (lv_at hl 3 rfl) ?_
      refine lv_aload_n hx hb dX6_keepStep_14 rfl (lv_at hl 0 rfl) ?_
      refine va_get (D := G) (ci := 5) (v := .int t_unknowns) (C := RX6) (T := TX6) (N := 6) hx hb hts inX6 hown hK hP 0 rfl rfl 3 (by decide) hf22 (fun _ h9 => h9) rfl dX6_keepStep_15 ?_
      obtain ⟨ht, hf⟩ := h
      refine lv_icmp_ge (tgt := 51) hx hb dX6_keepStep_18 (by decide) (fun c9 => ?_) (fun c9 => ?_)
      · have h := ht c9
        exact hret t_steps H locs ls _ hP hD hS h dX6_keepStep_51
      · have h := hf c9
        refine lv_aload_n hx hb dX6_keepStep_21 rfl (lv_at hl 0 rfl) ?_
        refine va_get (D := G) (ci := 5) (v := .ref (B_t 0)) (C := RX6) (T := TX6) (N := 6) hx hb hts inX6 hown hK hP 0 rfl rfl 0 (by decide) hf9 (fun _ h9 => h9) rfl dX6_keepStep_22 ?_
        refine lv_iload_n hx hb dX6_keepStep_25 rfl (lv_at hl 1 rfl) ?_
        refine lv_bipush (v := 64) hx hb dX6_keepStep_26 (by decide) ?_
        refine lv_imul hx hb dX6_keepStep_28 ?_
        refine lv_iload_n hx hb dX6_keepStep_29 rfl (lv_at hl 3 rfl) ?_
        refine lv_iadd hx hb dX6_keepStep_30 ?_
        refine lv_aload_n hx hb dX6_keepStep_31 rfl (lv_at hl 0 rfl) ?_
        refine va_get (D := G) (ci := 5) (v := .ref (B_t 1)) (C := RX6) (T := TX6) (N := 6) hx hb hts inX6 hown hK hP 0 rfl rfl 1 (by decide) hf15 (fun _ h9 => h9) rfl dX6_keepStep_32 ?_
        refine lv_iload_n hx hb dX6_keepStep_35 rfl (lv_at hl 3 rfl) ?_
        obtain ⟨hin, h⟩ := h
        refine va_iald hx hb hK hP 1 0 rfl rfl hin dX6_keepStep_36 ?_
        refine lv_iload_n hx hb dX6_keepStep_37 rfl (lv_at hl 2 rfl) ?_
        refine lv_imul hx hb dX6_keepStep_38 ?_
        refine lv_aload_n hx hb dX6_keepStep_39 rfl (lv_at hl 0 rfl) ?_
        refine va_get (D := G) (ci := 5) (v := .int t_prime) (C := RX6) (T := TX6) (N := 6) hx hb hts inX6 hown hK hP 0 rfl rfl 4 (by decide) hf25 (fun _ h9 => h9) rfl dX6_keepStep_40 ?_
        obtain ⟨hne, h⟩ := h
        refine lv_irem hx hb dX6_keepStep_43 hne ?_
        obtain ⟨hin, h⟩ := h
        refine va_iast hx hb hK hP hD hS 2 0 rfl rfl hin dX6_keepStep_44 (fun H locs hP hD hS => ?_)
        have hP : va_P G vwCl (w_X6_keepStep Y h_t B_t t_things t_unknowns t_prime t_leads t_equation (upd t_steps (Int32.toNatClampNeg ((x1 * (64 : Int32)) + x3)) (((t_equation (Int32.toNatClampNeg x3)) * x2) - ((t_equation (Int32.toNatClampNeg x3)) * x2) / t_prime * t_prime))) H := hP
        have hD : va_D A (w_X6_keepStep Y h_t B_t t_things t_unknowns t_prime t_leads t_equation (upd t_steps (Int32.toNatClampNeg ((x1 * (64 : Int32)) + x3)) (((t_equation (Int32.toNatClampNeg x3)) * x2) - ((t_equation (Int32.toNatClampNeg x3)) * x2) / t_prime * t_prime))) := hD
        refine lv_iinc (v := (x3 + 1)) (lv' := [(3, .int (x3 + 1)), (0, .ref h_t), (1, .int x1), (2, .int x2)]) hx hb dX6_keepStep_45 hl (k := 3) rfl rfl (by decide) rfl (fun ls hl => ?_)
        refine lv_goto (tgt := 13) hx hb dX6_keepStep_48 (by decide) ?_
        exact rec13 (x3 + 1) (upd t_steps (Int32.toNatClampNeg ((x1 * (64 : Int32)) + x3)) (((t_equation (Int32.toNatClampNeg x3)) * x2) - ((t_equation (Int32.toNatClampNeg x3)) * x2) / t_prime * t_prime)) H locs ls h hP hD hS (lv_sub hl [1, 2, 3, 0] rfl)
  exact L13 x1 r7 I13 m13 hB13 _ x1 t_steps H locs ls hI13 (Nat.lt_succ_self _) hP hD hS (lv_sub hl [2, 3, 1, 0] rfl)

set_option maxHeartbeats 4000000 in
set_option maxRecDepth 100000 in
theorem c_X6_keepStep (l : Launch) (G : va_G) (Y : Nat → ClassId) (tF sz : Nat) (h_t : Nat) (B_t : Nat → Nat) (t_things : Int32) (t_unknowns : Int32) (t_prime : Int32) (t_leads : Int64) (t_equation : Nat → Int32) (t_steps : Nat → Int32) (x1 : Int32) {K : (Nat → Int32) → Prop} (h : pX6_keepStep t_unknowns t_prime t_equation t_steps x1 K) : Met l yX6_keepStep wsX6_keepStep ({ frames := 1, cells := 0, slots := 0, locals := 22 }) (PcM G Y tF sz (w_X6_keepStep Y h_t B_t t_things t_unknowns t_prime t_leads t_equation t_steps) [.ref h_t, .int x1]) (va_Qv (fun u : (Nat → Int32) => K u) (fun u t => BM G Y (va_A (w_X6_keepStep Y h_t B_t t_things t_unknowns t_prime t_leads t_equation t_steps) sz) (w_X6_keepStep Y h_t B_t t_things t_unknowns t_prime t_leads t_equation u) t) (va_A (w_X6_keepStep Y h_t B_t t_things t_unknowns t_prime t_leads t_equation t_steps) sz)) 0 0 (va_A (w_X6_keepStep Y h_t B_t t_things t_unknowns t_prime t_leads t_equation t_steps) sz) := by
  refine Met.ofW (cc := cX6_keepStep) (maxL := 4) (ret := none) (by decide +kernel) rfl ?_
  intro p e s m args below meth c s₁ B hml hv
  obtain ⟨rfl, hsz, hP, hK, hD0, hE⟩ := hv
  have hts := atoms_spec (ws := wsX6_keepStep) B.pre
  have hown : s.vm.findClass RX6 = some m.cls := findClass_of_methodNamed B.named
  have hlocks := B.notSynchronized
  subst hsz
  have hD := hD0.self (sz := s.heap.size)
  exact wk_X6_keepStep h_t B_t t_things t_unknowns t_prime t_leads t_equation t_steps x1 B.exec B.bytes hml hown hts hK hE (fun q h => Or.inr h) (Nat.le_refl _) (Nat.le_refl _) (fun t_steps H locs ls pc hP hD hS hk hd => W.vret B.exec B.bytes B.returns (fun t ht hW => ⟨⟨t_steps, rfl, hk, by rw [ht]; exact hP, va_K.moved hW.alike hK, hD⟩, hS.F ht⟩) hS.2.2 hd) hP hD h

abbrev w_X6_clearLead (Y : Nat → ClassId) (h_t : Nat) (B_t : Nat → Nat) (t_things : Int32) (t_unknowns : Int32) (t_prime : Int32) (t_leads : Int64) (t_equation : Nat → Int32) (t_steps : Nat → Int32) : va_W := [(h_t, .inr (5, [.ref (B_t 0), .ref (B_t 1), .int t_things, .int t_unknowns, .int t_prime, .long t_leads])), ((B_t 1), .inl (Y 0, 64, .inl t_equation)), ((B_t 0), .inl (Y 0, 4096, .inl t_steps))]

set_option maxHeartbeats 4000000 in
set_option maxRecDepth 100000 in
theorem wk_X6_clearLead {p : Program} {l : Launch} {e : Env} {R : Room} {s : State} {m : MethodId} {args : Array Value} {below : List Frame} {meth : Method} {c : Code} {Q : State → Prop} {G : va_G} {Y : Nat → ClassId} {tF : Nat} {A : Nat → Prop} (h_t : Nat) (B_t : Nat → Nat) (t_things : Int32) (t_unknowns : Int32) (t_prime : Int32) (t_leads : Int64) (t_equation : Nat → Int32) (t_steps : Nat → Int32) (x1 : Int32) {K : (Nat → Int32) → Prop} (hx : p.tables.exec = Jvm.exec) (hb : c.code = cX6_clearLead) (hml : c.maxLocals = 4) (hown : s.vm.findClass RX6 = some m.cls) (hts : ∀ w ∈ wsX6_clearLead, w.before args s = true) (hK : va_K G vwCl (tyL Y) s) (hE : Ev A tF s) (hA : ∀ q, s.heap.size ≤ q → A q) (hRf : 0 ≤ R.frames) (hRl : 0 ≤ R.locals) (hret : ∀ (t_equation : Nat → Int32) (H : Heap) (locs : List Loc) (ls : Array Slot) (pc : Nat), va_P G vwCl (w_X6_clearLead Y h_t B_t t_things t_unknowns t_prime t_leads t_equation t_steps) H → va_D A (w_X6_clearLead Y h_t B_t t_things t_unknowns t_prime t_leads t_equation t_steps) → va_S A s.heap H locs → K t_equation → decode cX6_clearLead pc = .ok (.return_, 1) → W p l e R s m args below meth c H locs 0 0 Q (F0 m pc ls [])) (hP : va_P G vwCl (w_X6_clearLead Y h_t B_t t_things t_unknowns t_prime t_leads t_equation t_steps) s.heap) (hD : va_D A (w_X6_clearLead Y h_t B_t t_things t_unknowns t_prime t_leads t_equation t_steps)) (h : pX6_clearLead t_unknowns t_prime t_equation t_steps x1 K) : W p l e R s m args below meth c s.heap [] 0 0 Q (entryFrame m ([.ref h_t, .int x1] : List Value).toArray 4) := by
  have inX6 : ∀ w ∈ u_ws RX6 TX6 6, w ∈ wsX6_clearLead := by decide +kernel
  have hf15 := hts (.fieldLink RX6 15 "RackBench$Solver" "equation" "[I") (by decide +kernel)
  have hf22 := hts (.fieldLink RX6 22 "RackBench$Solver" "unknowns" "I") (by decide +kernel)
  have hf25 := hts (.fieldLink RX6 25 "RackBench$Solver" "prime" "I") (by decide +kernel)
  have hf9 := hts (.fieldLink RX6 9 "RackBench$Solver" "steps" "[I") (by decide +kernel)
  have hl := lv_entry ([.ref h_t, .int x1]) (n := 4) (Nat.le_of_ble_eq_true rfl)
  rw [lg_entry_eq]
  generalize (lg_sl ([.ref h_t, .int x1]) ++ List.replicate (4 - (lg_sl ([.ref h_t, .int x1])).length) Slot.unset).toArray = ls at hl ⊢
  have hl : lv_has ls 4 [(0, .ref h_t), (1, .int x1)] := hl
  generalize hH0 : s.heap = H at hP ⊢
  have hS : va_S A s.heap H [] := by rw [← hH0]; exact va_S.rf
  clear hH0
  generalize ([] : List Loc) = locs at hS ⊢
  refine lv_aload_n hx hb dX6_clearLead_0 rfl (lv_at hl 0 rfl) ?_
  refine va_get (D := G) (ci := 5) (v := .int t_prime) (C := RX6) (T := TX6) (N := 6) hx hb hts inX6 hown hK hP 0 rfl rfl 4 (by decide) hf25 (fun _ h9 => h9) rfl dX6_clearLead_1 ?_
  refine lv_aload_n hx hb dX6_clearLead_4 rfl (lv_at hl 0 rfl) ?_
  refine va_get (D := G) (ci := 5) (v := .ref (B_t 1)) (C := RX6) (T := TX6) (N := 6) hx hb hts inX6 hown hK hP 0 rfl rfl 1 (by decide) hf15 (fun _ h9 => h9) rfl dX6_clearLead_5 ?_
  refine lv_iload_n hx hb dX6_clearLead_8 rfl (lv_at hl 1 rfl) ?_
  obtain ⟨hin, h⟩ := h
  refine va_iald hx hb hK hP 1 0 rfl rfl hin dX6_clearLead_9 ?_
  refine lv_isub hx hb dX6_clearLead_10 ?_
  refine lv_istore_n (lv' := [(2, .int (t_prime - (t_equation (Int32.toNatClampNeg x1)))), (0, .ref h_t), (1, .int x1)]) hx hb dX6_clearLead_11 rfl hl (by decide) rfl (fun ls hl => ?_)
  refine lv_iload_n hx hb dX6_clearLead_12 rfl (lv_at hl 2 rfl) ?_
  refine lv_istore_n (lv' := [(3, .int x1), (2, .int (t_prime - (t_equation (Int32.toNatClampNeg x1)))), (0, .ref h_t), (1, .int x1)]) hx hb dX6_clearLead_13 rfl hl (by decide) rfl (fun ls hl => ?_)
  obtain ⟨I14, m14, hI14, hB14⟩ := h
  have L14 : ∀ (x1 : Int32) (x2 : Int32) (I14 : Int32 → (Nat → Int32) → Prop) (m14 : Int32 → (Nat → Int32) → Nat), (∀ (x3 : Int32) (t_equation : Nat → Int32), I14 x3 t_equation → pX6_clearLead_14 t_unknowns t_prime t_steps K x1 x2 x3 t_equation (fun x3' t_equation' => I14 x3' t_equation' ∧ m14 x3' t_equation' < m14 x3 t_equation)) → ∀ (n : Nat) (x3 : Int32) (t_equation : Nat → Int32) (H : Heap) (locs : List Loc) (ls : Array Slot), I14 x3 t_equation → m14 x3 t_equation < n → va_P G vwCl (w_X6_clearLead Y h_t B_t t_things t_unknowns t_prime t_leads t_equation t_steps) H → va_D A (w_X6_clearLead Y h_t B_t t_things t_unknowns t_prime t_leads t_equation t_steps) → va_S A s.heap H locs → lv_has ls 4 [(0, .ref h_t), (1, .int x1), (2, .int x2), (3, .int x3)] → W p l e R s m args below meth c H locs 0 0 Q (F0 m 14 ls []) := by
    intro x1 x2 I14 m14 hB14 n
    induction n with
    | zero => intro x3 t_equation H locs ls _ hm; exact absurd hm (Nat.not_lt_zero _)
    | succ n ih =>
      intro x3 t_equation H locs ls hI hm hP hD hS hl
      obtain ⟨R14, h, rec14⟩ : ∃ R14 : Int32 → (Nat → Int32) → Prop, pX6_clearLead_14 t_unknowns t_prime t_steps K x1 x2 x3 t_equation R14 ∧ ∀ (x3 : Int32) (t_equation : Nat → Int32) (H : Heap) (locs : List Loc) (ls : Array Slot), R14 x3 t_equation → va_P G vwCl (w_X6_clearLead Y h_t B_t t_things t_unknowns t_prime t_leads t_equation t_steps) H → va_D A (w_X6_clearLead Y h_t B_t t_things t_unknowns t_prime t_leads t_equation t_steps) → va_S A s.heap H locs → lv_has ls 4 [(0, .ref h_t), (1, .int x1), (2, .int x2), (3, .int x3)] → W p l e R s m args below meth c H locs 0 0 Q (F0 m 14 ls []) := ⟨_, hB14 x3 t_equation hI, fun x3 t_equation H locs ls hh hP hD hS hl => ih x3 t_equation H locs ls hh.1 (Nat.lt_of_lt_of_le hh.2 (Nat.le_of_lt_succ hm)) hP hD hS hl⟩
      refine lv_iload_n hx hb dX6_clearLead_14 rfl (lv_at hl 3 rfl) ?_
      refine lv_aload_n hx hb dX6_clearLead_15 rfl (lv_at hl 0 rfl) ?_
      refine va_get (D := G) (ci := 5) (v := .int t_unknowns) (C := RX6) (T := TX6) (N := 6) hx hb hts inX6 hown hK hP 0 rfl rfl 3 (by decide) hf22 (fun _ h9 => h9) rfl dX6_clearLead_16 ?_
      obtain ⟨ht, hf⟩ := h
      refine lv_icmp_ge (tgt := 59) hx hb dX6_clearLead_19 (by decide) (fun c9 => ?_) (fun c9 => ?_)
      · have h := ht c9
        exact hret t_equation H locs ls _ hP hD hS h dX6_clearLead_59
      · have h := hf c9
        refine lv_aload_n hx hb dX6_clearLead_22 rfl (lv_at hl 0 rfl) ?_
        refine va_get (D := G) (ci := 5) (v := .ref (B_t 1)) (C := RX6) (T := TX6) (N := 6) hx hb hts inX6 hown hK hP 0 rfl rfl 1 (by decide) hf15 (fun _ h9 => h9) rfl dX6_clearLead_23 ?_
        refine lv_iload_n hx hb dX6_clearLead_26 rfl (lv_at hl 3 rfl) ?_
        refine lv_aload_n hx hb dX6_clearLead_27 rfl (lv_at hl 0 rfl) ?_
        refine va_get (D := G) (ci := 5) (v := .ref (B_t 1)) (C := RX6) (T := TX6) (N := 6) hx hb hts inX6 hown hK hP 0 rfl rfl 1 (by decide) hf15 (fun _ h9 => h9) rfl dX6_clearLead_28 ?_
        refine lv_iload_n hx hb dX6_clearLead_31 rfl (lv_at hl 3 rfl) ?_
        obtain ⟨hin, h⟩ := h
        refine va_iald hx hb hK hP 1 0 rfl rfl hin dX6_clearLead_32 ?_
        refine lv_iload_n hx hb dX6_clearLead_33 rfl (lv_at hl 2 rfl) ?_
        refine lv_aload_n hx hb dX6_clearLead_34 rfl (lv_at hl 0 rfl) ?_
        refine va_get (D := G) (ci := 5) (v := .ref (B_t 0)) (C := RX6) (T := TX6) (N := 6) hx hb hts inX6 hown hK hP 0 rfl rfl 0 (by decide) hf9 (fun _ h9 => h9) rfl dX6_clearLead_35 ?_
        refine lv_iload_n hx hb dX6_clearLead_38 rfl (lv_at hl 1 rfl) ?_
        refine lv_bipush (v := 64) hx hb dX6_clearLead_39 (by decide) ?_
        refine lv_imul hx hb dX6_clearLead_41 ?_
        refine lv_iload_n hx hb dX6_clearLead_42 rfl (lv_at hl 3 rfl) ?_
        refine lv_iadd hx hb dX6_clearLead_43 ?_
        obtain ⟨hin, h⟩ := h
        refine va_iald hx hb hK hP 2 0 rfl rfl hin dX6_clearLead_44 ?_
        refine lv_imul hx hb dX6_clearLead_45 ?_
        refine lv_iadd hx hb dX6_clearLead_46 ?_
        refine lv_aload_n hx hb dX6_clearLead_47 rfl (lv_at hl 0 rfl) ?_
        refine va_get (D := G) (ci := 5) (v := .int t_prime) (C := RX6) (T := TX6) (N := 6) hx hb hts inX6 hown hK hP 0 rfl rfl 4 (by decide) hf25 (fun _ h9 => h9) rfl dX6_clearLead_48 ?_
        obtain ⟨hne, h⟩ := h
        refine lv_irem hx hb dX6_clearLead_51 hne ?_
        obtain ⟨hin, h⟩ := h
        refine va_iast hx hb hK hP hD hS 1 0 rfl rfl hin dX6_clearLead_52 (fun H locs hP hD hS => ?_)
        have hP : va_P G vwCl (w_X6_clearLead Y h_t B_t t_things t_unknowns t_prime t_leads (upd t_equation (Int32.toNatClampNeg x3) (((t_equation (Int32.toNatClampNeg x3)) + (x2 * (t_steps (Int32.toNatClampNeg ((x1 * (64 : Int32)) + x3))))) - ((t_equation (Int32.toNatClampNeg x3)) + (x2 * (t_steps (Int32.toNatClampNeg ((x1 * (64 : Int32)) + x3))))) / t_prime * t_prime)) t_steps) H := hP
        have hD : va_D A (w_X6_clearLead Y h_t B_t t_things t_unknowns t_prime t_leads (upd t_equation (Int32.toNatClampNeg x3) (((t_equation (Int32.toNatClampNeg x3)) + (x2 * (t_steps (Int32.toNatClampNeg ((x1 * (64 : Int32)) + x3))))) - ((t_equation (Int32.toNatClampNeg x3)) + (x2 * (t_steps (Int32.toNatClampNeg ((x1 * (64 : Int32)) + x3))))) / t_prime * t_prime)) t_steps) := hD
        refine lv_iinc (v := (x3 + 1)) (lv' := [(3, .int (x3 + 1)), (0, .ref h_t), (1, .int x1), (2, .int x2)]) hx hb dX6_clearLead_53 hl (k := 3) rfl rfl (by decide) rfl (fun ls hl => ?_)
        refine lv_goto (tgt := 14) hx hb dX6_clearLead_56 (by decide) ?_
        exact rec14 (x3 + 1) (upd t_equation (Int32.toNatClampNeg x3) (((t_equation (Int32.toNatClampNeg x3)) + (x2 * (t_steps (Int32.toNatClampNeg ((x1 * (64 : Int32)) + x3))))) - ((t_equation (Int32.toNatClampNeg x3)) + (x2 * (t_steps (Int32.toNatClampNeg ((x1 * (64 : Int32)) + x3))))) / t_prime * t_prime)) H locs ls h hP hD hS (lv_sub hl [1, 2, 3, 0] rfl)
  exact L14 x1 (t_prime - (t_equation (Int32.toNatClampNeg x1))) I14 m14 hB14 _ x1 t_equation H locs ls hI14 (Nat.lt_succ_self _) hP hD hS (lv_sub hl [2, 3, 1, 0] rfl)

set_option maxHeartbeats 4000000 in
set_option maxRecDepth 100000 in
theorem c_X6_clearLead (l : Launch) (G : va_G) (Y : Nat → ClassId) (tF sz : Nat) (h_t : Nat) (B_t : Nat → Nat) (t_things : Int32) (t_unknowns : Int32) (t_prime : Int32) (t_leads : Int64) (t_equation : Nat → Int32) (t_steps : Nat → Int32) (x1 : Int32) {K : (Nat → Int32) → Prop} (h : pX6_clearLead t_unknowns t_prime t_equation t_steps x1 K) : Met l yX6_clearLead wsX6_clearLead ({ frames := 0, cells := 0, slots := 0, locals := 0 }) (PcM G Y tF sz (w_X6_clearLead Y h_t B_t t_things t_unknowns t_prime t_leads t_equation t_steps) [.ref h_t, .int x1]) (va_Qv (fun u : (Nat → Int32) => K u) (fun u t => BM G Y (va_A (w_X6_clearLead Y h_t B_t t_things t_unknowns t_prime t_leads t_equation t_steps) sz) (w_X6_clearLead Y h_t B_t t_things t_unknowns t_prime t_leads u t_steps) t) (va_A (w_X6_clearLead Y h_t B_t t_things t_unknowns t_prime t_leads t_equation t_steps) sz)) 0 0 (va_A (w_X6_clearLead Y h_t B_t t_things t_unknowns t_prime t_leads t_equation t_steps) sz) := by
  refine Met.ofW (cc := cX6_clearLead) (maxL := 4) (ret := none) (by decide +kernel) rfl ?_
  intro p e s m args below meth c s₁ B hml hv
  obtain ⟨rfl, hsz, hP, hK, hD0, hE⟩ := hv
  have hts := atoms_spec (ws := wsX6_clearLead) B.pre
  have hown : s.vm.findClass RX6 = some m.cls := findClass_of_methodNamed B.named
  have hlocks := B.notSynchronized
  subst hsz
  have hD := hD0.self (sz := s.heap.size)
  exact wk_X6_clearLead h_t B_t t_things t_unknowns t_prime t_leads t_equation t_steps x1 B.exec B.bytes hml hown hts hK hE (fun q h => Or.inr h) (Nat.le_refl _) (Nat.le_refl _) (fun t_equation H locs ls pc hP hD hS hk hd => W.vret B.exec B.bytes B.returns (fun t ht hW => ⟨⟨t_equation, rfl, hk, by rw [ht]; exact hP, va_K.moved hW.alike hK, hD⟩, hS.F ht⟩) hS.2.2 hd) hP hD h

abbrev w_X6_bindsOne (Y : Nat → ClassId) (h_t : Nat) (B_t : Nat → Nat) (t_things : Int32) (t_unknowns : Int32) (t_prime : Int32) (t_leads : Int64) (t_equation : Nat → Int32) (t_steps : Nat → Int32) : va_W := [(h_t, .inr (5, [.ref (B_t 0), .ref (B_t 1), .int t_things, .int t_unknowns, .int t_prime, .long t_leads])), ((B_t 1), .inl (Y 0, 64, .inl t_equation)), ((B_t 0), .inl (Y 0, 4096, .inl t_steps))]

set_option maxHeartbeats 4000000 in
set_option maxRecDepth 100000 in
theorem wk_X6_bindsOne {p : Program} {l : Launch} {e : Env} {R : Room} {s : State} {m : MethodId} {args : Array Value} {below : List Frame} {meth : Method} {c : Code} {Q : State → Prop} {G : va_G} {Y : Nat → ClassId} {tF : Nat} {A : Nat → Prop} (h_t : Nat) (B_t : Nat → Nat) (t_things : Int32) (t_unknowns : Int32) (t_prime : Int32) (t_leads : Int64) (t_equation : Nat → Int32) (t_steps : Nat → Int32) {K : Int32 → Int64 → (Nat → Int32) → (Nat → Int32) → Prop} (hx : p.tables.exec = Jvm.exec) (hb : c.code = cX6_bindsOne) (hml : c.maxLocals = 2) (hown : s.vm.findClass RX6 = some m.cls) (hts : ∀ w ∈ wsX6_bindsOne, w.before args s = true) (hK : va_K G vwCl (tyL Y) s) (hE : Ev A tF s) (hA : ∀ q, s.heap.size ≤ q → A q) (hRf : 2 ≤ R.frames) (hRl : 45 ≤ R.locals) (hret : ∀ (r : Int32) (t_leads : Int64) (t_equation : Nat → Int32) (t_steps : Nat → Int32) (H : Heap) (locs : List Loc) (ls : Array Slot) (pc : Nat), va_P G vwCl (w_X6_bindsOne Y h_t B_t t_things t_unknowns t_prime t_leads t_equation t_steps) H → va_D A (w_X6_bindsOne Y h_t B_t t_things t_unknowns t_prime t_leads t_equation t_steps) → va_S A s.heap H locs → zb r → K r t_leads t_equation t_steps → decode cX6_bindsOne pc = .ok (.ireturn, 1) → W p l e R s m args below meth c H locs 0 0 Q (F0 m pc ls [.int r])) (hP : va_P G vwCl (w_X6_bindsOne Y h_t B_t t_things t_unknowns t_prime t_leads t_equation t_steps) s.heap) (hD : va_D A (w_X6_bindsOne Y h_t B_t t_things t_unknowns t_prime t_leads t_equation t_steps)) (h : pX6_bindsOne t_unknowns t_prime t_leads t_equation t_steps K) : W p l e R s m args below meth c s.heap [] 0 0 Q (entryFrame m ([.ref h_t] : List Value).toArray 2) := by
  have inX6 : ∀ w ∈ u_ws RX6 TX6 6, w ∈ wsX6_bindsOne := by decide +kernel
  have hf15 := hts (.fieldLink RX6 15 "RackBench$Solver" "equation" "[I") (by decide +kernel)
  have hf22 := hts (.fieldLink RX6 22 "RackBench$Solver" "unknowns" "I") (by decide +kernel)
  have hf28 := hts (.fieldLink RX6 28 "RackBench$Solver" "leads" "J") (by decide +kernel)
  have hl := lv_entry ([.ref h_t]) (n := 2) (Nat.le_of_ble_eq_true rfl)
  rw [lg_entry_eq]
  generalize (lg_sl ([.ref h_t]) ++ List.replicate (2 - (lg_sl ([.ref h_t])).length) Slot.unset).toArray = ls at hl ⊢
  have hl : lv_has ls 2 [(0, .ref h_t)] := hl
  generalize hH0 : s.heap = H at hP ⊢
  have hS : va_S A s.heap H [] := by rw [← hH0]; exact va_S.rf
  clear hH0
  generalize ([] : List Loc) = locs at hS ⊢
  refine lv_iconst (v := 0) hx hb dX6_bindsOne_0 (by decide) ?_
  refine lv_istore_n (lv' := [(1, .int (0 : Int32)), (0, .ref h_t)]) hx hb dX6_bindsOne_1 rfl hl (by decide) rfl (fun ls hl => ?_)
  obtain ⟨I2, m2, hI2, hB2⟩ := h
  have L2 : ∀ (t_leads : Int64) (t_steps : Nat → Int32) (I2 : Int32 → (Nat → Int32) → Prop) (m2 : Int32 → (Nat → Int32) → Nat), (∀ (x1 : Int32) (t_equation : Nat → Int32), I2 x1 t_equation → pX6_bindsOne_2 t_unknowns t_prime K t_leads t_steps x1 t_equation (fun x1' t_equation' => I2 x1' t_equation' ∧ m2 x1' t_equation' < m2 x1 t_equation)) → ∀ (n : Nat) (x1 : Int32) (t_equation : Nat → Int32) (H : Heap) (locs : List Loc) (ls : Array Slot), I2 x1 t_equation → m2 x1 t_equation < n → va_P G vwCl (w_X6_bindsOne Y h_t B_t t_things t_unknowns t_prime t_leads t_equation t_steps) H → va_D A (w_X6_bindsOne Y h_t B_t t_things t_unknowns t_prime t_leads t_equation t_steps) → va_S A s.heap H locs → lv_has ls 2 [(0, .ref h_t), (1, .int x1)] → W p l e R s m args below meth c H locs 0 0 Q (F0 m 2 ls []) := by
    intro t_leads t_steps I2 m2 hB2 n
    induction n with
    | zero => intro x1 t_equation H locs ls _ hm; exact absurd hm (Nat.not_lt_zero _)
    | succ n ih =>
      intro x1 t_equation H locs ls hI hm hP hD hS hl
      obtain ⟨R2, h, rec2⟩ : ∃ R2 : Int32 → (Nat → Int32) → Prop, pX6_bindsOne_2 t_unknowns t_prime K t_leads t_steps x1 t_equation R2 ∧ ∀ (x1 : Int32) (t_equation : Nat → Int32) (H : Heap) (locs : List Loc) (ls : Array Slot), R2 x1 t_equation → va_P G vwCl (w_X6_bindsOne Y h_t B_t t_things t_unknowns t_prime t_leads t_equation t_steps) H → va_D A (w_X6_bindsOne Y h_t B_t t_things t_unknowns t_prime t_leads t_equation t_steps) → va_S A s.heap H locs → lv_has ls 2 [(0, .ref h_t), (1, .int x1)] → W p l e R s m args below meth c H locs 0 0 Q (F0 m 2 ls []) := ⟨_, hB2 x1 t_equation hI, fun x1 t_equation H locs ls hh hP hD hS hl => ih x1 t_equation H locs ls hh.1 (Nat.lt_of_lt_of_le hh.2 (Nat.le_of_lt_succ hm)) hP hD hS hl⟩
      refine lv_iload_n hx hb dX6_bindsOne_2 rfl (lv_at hl 1 rfl) ?_
      refine lv_aload_n hx hb dX6_bindsOne_3 rfl (lv_at hl 0 rfl) ?_
      refine va_get (D := G) (ci := 5) (v := .int t_unknowns) (C := RX6) (T := TX6) (N := 6) hx hb hts inX6 hown hK hP 0 rfl rfl 3 (by decide) hf22 (fun _ h9 => h9) rfl dX6_bindsOne_4 ?_
      obtain ⟨ht, hf⟩ := h
      refine lv_icmp_ge (tgt := 62) hx hb dX6_bindsOne_7 (by decide) (fun c9 => ?_) (fun c9 => ?_)
      · have h := ht c9
        refine lv_iconst (v := 0) hx hb dX6_bindsOne_62 (by decide) ?_
        obtain ⟨hz, h⟩ := h
        exact hret (0 : Int32) t_leads t_equation t_steps H locs ls _ hP hD hS hz h dX6_bindsOne_63
      · have h := hf c9
        refine lv_aload_n hx hb dX6_bindsOne_10 rfl (lv_at hl 0 rfl) ?_
        refine va_get (D := G) (ci := 5) (v := .ref (B_t 1)) (C := RX6) (T := TX6) (N := 6) hx hb hts inX6 hown hK hP 0 rfl rfl 1 (by decide) hf15 (fun _ h9 => h9) rfl dX6_bindsOne_11 ?_
        refine lv_iload_n hx hb dX6_bindsOne_14 rfl (lv_at hl 1 rfl) ?_
        obtain ⟨hin, h⟩ := h
        refine va_iald hx hb hK hP 1 0 rfl rfl hin dX6_bindsOne_15 ?_
        obtain ⟨ht, hf⟩ := h
        refine lv_if_eq (tgt := 56) hx hb dX6_bindsOne_16 (by decide) (fun c9 => ?_) (fun c9 => ?_)
        · have h := ht c9
          refine lv_iinc (v := (x1 + 1)) (lv' := [(1, .int (x1 + 1)), (0, .ref h_t)]) hx hb dX6_bindsOne_56 hl (k := 1) rfl rfl (by decide) rfl (fun ls hl => ?_)
          refine lv_goto (tgt := 2) hx hb dX6_bindsOne_59 (by decide) ?_
          exact rec2 (x1 + 1) t_equation H locs ls h hP hD hS (lv_sub hl [1, 0] rfl)
        · have h := hf c9
          refine lv_aload_n hx hb dX6_bindsOne_19 rfl (lv_at hl 0 rfl) ?_
          refine va_get (D := G) (ci := 5) (v := .long t_leads) (C := RX6) (T := TX6) (N := 6) hx hb hts inX6 hown hK hP 0 rfl rfl 5 (by decide) hf28 (fun _ h9 => h9) rfl dX6_bindsOne_20 ?_
          refine lv_iload_n hx hb dX6_bindsOne_23 rfl (lv_at hl 1 rfl) ?_
          refine lv_lshr hx hb dX6_bindsOne_24 rfl ?_
          refine lv_lconst (v := 1) hx hb dX6_bindsOne_25 (by decide) ?_
          refine lv_land hx hb dX6_bindsOne_26 ?_
          refine lv_lconst (v := 0) hx hb dX6_bindsOne_27 (by decide) ?_
          refine W.lcmp hx hb dX6_bindsOne_28 ?_
          obtain ⟨ht, hf⟩ := h
          refine lv_if_ne (tgt := 51) hx hb dX6_bindsOne_29 (by decide) (fun c9 => ?_) (fun c9 => ?_)
          · have h := ht c9
            refine lv_aload_n hx hb dX6_bindsOne_51 rfl (lv_at hl 0 rfl) ?_
            refine lv_iload_n hx hb dX6_bindsOne_52 rfl (lv_at hl 1 rfl) ?_
            refine mc_vV ⟨hx, hb, hml, hown, hts⟩ hK hE hA hP hD hS (c_X6_clearLead l G Y tF H.size h_t B_t t_things t_unknowns t_prime t_leads t_equation t_steps x1 h) (cwV 1 hts gX6_bindsOne_X6_clearLead rfl rfl rfl (by decide +kernel) ⟨Nat.le_trans (by decide) hRf, Nat.le_trans (by decide) hRl⟩) (fun u => (w_X6_bindsOne Y h_t B_t t_things t_unknowns t_prime t_leads u t_steps)) [0, 1, 2] [] [0, 1, 2] rfl rfl rfl rfl (by decide) (fun _ => rfl) rfl 0 5 rfl rfl rfl rfl hl.1 rfl (Nat.le_of_ble_eq_true rfl) dX6_bindsOne_53 (fun u H locs h hP hD hS => ?_)
            obtain ⟨t_equation_53, rfl⟩ : ∃ z, z = u := ⟨_, rfl⟩
            try dsimp only at h
            have hP : va_P G vwCl (w_X6_bindsOne Y h_t B_t t_things t_unknowns t_prime t_leads t_equation_53 t_steps) H := hP
            have hD : va_D A (w_X6_bindsOne Y h_t B_t t_things t_unknowns t_prime t_leads t_equation_53 t_steps) := hD
            refine lv_iinc (v := (x1 + 1)) (lv' := [(1, .int (x1 + 1)), (0, .ref h_t)]) hx hb dX6_bindsOne_56 hl (k := 1) rfl rfl (by decide) rfl (fun ls hl => ?_)
            refine lv_goto (tgt := 2) hx hb dX6_bindsOne_59 (by decide) ?_
            exact rec2 (x1 + 1) t_equation_53 H locs ls h hP hD hS (lv_sub hl [1, 0] rfl)
          · have h := hf c9
            refine lv_aload_n hx hb dX6_bindsOne_32 rfl (lv_at hl 0 rfl) ?_
            refine lv_dup hx hb dX6_bindsOne_33 rfl ?_
            refine va_get (D := G) (ci := 5) (v := .long t_leads) (C := RX6) (T := TX6) (N := 6) hx hb hts inX6 hown hK hP 0 rfl rfl 5 (by decide) hf28 (fun _ h9 => h9) rfl dX6_bindsOne_34 ?_
            refine lv_lconst (v := 1) hx hb dX6_bindsOne_37 (by decide) ?_
            refine lv_iload_n hx hb dX6_bindsOne_38 rfl (lv_at hl 1 rfl) ?_
            refine lv_lshl hx hb dX6_bindsOne_39 rfl ?_
            refine lv_lor hx hb dX6_bindsOne_40 ?_
            refine va_put (D := G) (ci := 5) (v := .long (t_leads ||| ((1 : Int64) <<< ((Int32.toInt64 x1) &&& 63)))) (ty := .long) (C := RX6) (T := TX6) (N := 6) hx hb hts inX6 tyX6 tyX6_ok nmX6 hown hK hP hD hS 0 rfl rfl 5 (by decide) hf28 (fun _ h9 => h9) rfl (by decide +kernel) rfl rfl (Nat.le_of_ble_eq_true rfl) dX6_bindsOne_41 (fun H locs hP hD hS => ?_)
            have hP : va_P G vwCl (w_X6_bindsOne Y h_t B_t t_things t_unknowns t_prime (t_leads ||| ((1 : Int64) <<< ((Int32.toInt64 x1) &&& 63))) t_equation t_steps) H := hP
            have hD : va_D A (w_X6_bindsOne Y h_t B_t t_things t_unknowns t_prime (t_leads ||| ((1 : Int64) <<< ((Int32.toInt64 x1) &&& 63))) t_equation t_steps) := hD
            refine lv_aload_n hx hb dX6_bindsOne_44 rfl (lv_at hl 0 rfl) ?_
            refine lv_iload_n hx hb dX6_bindsOne_45 rfl (lv_at hl 1 rfl) ?_
            refine mc_vV ⟨hx, hb, hml, hown, hts⟩ hK hE hA hP hD hS (c_X6_keepStep l G Y tF H.size h_t B_t t_things t_unknowns t_prime (t_leads ||| ((1 : Int64) <<< ((Int32.toInt64 x1) &&& 63))) t_equation t_steps x1 h) (cwV 1 hts gX6_bindsOne_X6_keepStep rfl rfl rfl (by decide +kernel) ⟨Nat.le_trans (by decide) hRf, Nat.le_trans (by decide) hRl⟩) (fun u => (w_X6_bindsOne Y h_t B_t t_things t_unknowns t_prime (t_leads ||| ((1 : Int64) <<< ((Int32.toInt64 x1) &&& 63))) t_equation u)) [0, 1, 2] [] [0, 1, 2] rfl rfl rfl rfl (by decide) (fun _ => rfl) rfl 0 5 rfl rfl rfl rfl hl.1 rfl (Nat.le_of_ble_eq_true rfl) dX6_bindsOne_46 (fun u H locs h hP hD hS => ?_)
            obtain ⟨t_steps_46, rfl⟩ : ∃ z, z = u := ⟨_, rfl⟩
            try dsimp only at h
            have hP : va_P G vwCl (w_X6_bindsOne Y h_t B_t t_things t_unknowns t_prime (t_leads ||| ((1 : Int64) <<< ((Int32.toInt64 x1) &&& 63))) t_equation t_steps_46) H := hP
            have hD : va_D A (w_X6_bindsOne Y h_t B_t t_things t_unknowns t_prime (t_leads ||| ((1 : Int64) <<< ((Int32.toInt64 x1) &&& 63))) t_equation t_steps_46) := hD
            refine lv_iconst (v := 1) hx hb dX6_bindsOne_49 (by decide) ?_
            obtain ⟨hz, h⟩ := h
            exact hret (1 : Int32) (t_leads ||| ((1 : Int64) <<< ((Int32.toInt64 x1) &&& 63))) t_equation t_steps_46 H locs ls _ hP hD hS hz h dX6_bindsOne_50
  exact L2 t_leads t_steps I2 m2 hB2 _ (0 : Int32) t_equation H locs ls hI2 (Nat.lt_succ_self _) hP hD hS (lv_sub hl [1, 0] rfl)

set_option maxHeartbeats 4000000 in
set_option maxRecDepth 100000 in
theorem c_X6_bindsOne (l : Launch) (G : va_G) (Y : Nat → ClassId) (tF sz : Nat) (h_t : Nat) (B_t : Nat → Nat) (t_things : Int32) (t_unknowns : Int32) (t_prime : Int32) (t_leads : Int64) (t_equation : Nat → Int32) (t_steps : Nat → Int32) {K : Int32 → Int64 → (Nat → Int32) → (Nat → Int32) → Prop} (h : pX6_bindsOne t_unknowns t_prime t_leads t_equation t_steps K) : Met l yX6_bindsOne wsX6_bindsOne ({ frames := 2, cells := 0, slots := 0, locals := 45 }) (PcM G Y tF sz (w_X6_bindsOne Y h_t B_t t_things t_unknowns t_prime t_leads t_equation t_steps) [.ref h_t]) (va_Qi (fun (r : Int32) (u : Int64 × (Nat → Int32) × (Nat → Int32)) => K r u.1 u.2.1 u.2.2) (fun u t => BM G Y (va_A (w_X6_bindsOne Y h_t B_t t_things t_unknowns t_prime t_leads t_equation t_steps) sz) (w_X6_bindsOne Y h_t B_t t_things t_unknowns t_prime u.1 u.2.1 u.2.2) t) (va_A (w_X6_bindsOne Y h_t B_t t_things t_unknowns t_prime t_leads t_equation t_steps) sz)) 0 0 (va_A (w_X6_bindsOne Y h_t B_t t_things t_unknowns t_prime t_leads t_equation t_steps) sz) := by
  refine Met.ofW (cc := cX6_bindsOne) (maxL := 2) (ret := (some .boolean)) (by decide +kernel) rfl ?_
  intro p e s m args below meth c s₁ B hml hv
  obtain ⟨rfl, hsz, hP, hK, hD0, hE⟩ := hv
  have hts := atoms_spec (ws := wsX6_bindsOne) B.pre
  have hown : s.vm.findClass RX6 = some m.cls := findClass_of_methodNamed B.named
  have hlocks := B.notSynchronized
  subst hsz
  have hD := hD0.self (sz := s.heap.size)
  exact wk_X6_bindsOne h_t B_t t_things t_unknowns t_prime t_leads t_equation t_steps B.exec B.bytes hml hown hts hK hE (fun q h => Or.inr h) (Nat.le_refl _) (Nat.le_refl _) (fun r t_leads t_equation t_steps H locs ls pc hP hD hS hz hk hd => W.zret (v := r) B.exec B.bytes B.returns hz.n (fun t ht hW => ⟨⟨r, (t_leads, t_equation, t_steps), rfl, hk, by rw [ht]; exact hP, va_K.moved hW.alike hK, hD⟩, hS.F ht⟩) hS.2.2 hd) hP hD h

abbrev w_X6_closedPower (Y : Nat → ClassId) (h_t : Nat) (h_p1 : Nat) (B_t : Nat → Nat) (B_p1 : Nat → Nat) (t_things : Int32) (t_unknowns : Int32) (t_prime : Int32) (t_leads : Int64) (t_equation : Nat → Int32) (t_steps : Nat → Int32) (p1_n : Int32) (p1_cells : Nat → Int32) : va_W := [(h_t, .inr (5, [.ref (B_t 0), .ref (B_t 1), .int t_things, .int t_unknowns, .int t_prime, .long t_leads])), ((B_t 1), .inl (Y 0, 64, .inl t_equation)), ((B_t 0), .inl (Y 0, 4096, .inl t_steps)), (h_p1, .inr (6, [.ref (B_p1 0), .int p1_n])), ((B_p1 0), .inl (Y 0, 64, .inl p1_cells))]

set_option maxHeartbeats 4000000 in
set_option maxRecDepth 100000 in
theorem wk_X6_closedPower {p : Program} {l : Launch} {e : Env} {R : Room} {s : State} {m : MethodId} {args : Array Value} {below : List Frame} {meth : Method} {c : Code} {Q : State → Prop} {G : va_G} {Y : Nat → ClassId} {tF : Nat} {A : Nat → Prop} (h_t : Nat) (h_p1 : Nat) (B_t : Nat → Nat) (B_p1 : Nat → Nat) (t_things : Int32) (t_unknowns : Int32) (t_prime : Int32) (t_leads : Int64) (t_equation : Nat → Int32) (t_steps : Nat → Int32) (p1_n : Int32) (p1_cells : Nat → Int32) (x2 : Int32) {K : Int32 → Int32 → Int32 → Int32 → Int64 → (Nat → Int32) → (Nat → Int32) → Prop} (hx : p.tables.exec = Jvm.exec) (hb : c.code = cX6_closedPower) (hml : c.maxLocals = 7) (hown : s.vm.findClass RX6 = some m.cls) (hts : ∀ w ∈ wsX6_closedPower, w.before args s = true) (hK : va_K G vwCl (tyL Y) s) (hE : Ev A tF s) (hA : ∀ q, s.heap.size ≤ q → A q) (hRf : 3 ≤ R.frames) (hRl : 66 ≤ R.locals) (hret : ∀ (r : Int32) (t_things : Int32) (t_unknowns : Int32) (t_prime : Int32) (t_leads : Int64) (t_equation : Nat → Int32) (t_steps : Nat → Int32) (H : Heap) (locs : List Loc) (ls : Array Slot) (pc : Nat), va_P G vwCl (w_X6_closedPower Y h_t h_p1 B_t B_p1 t_things t_unknowns t_prime t_leads t_equation t_steps p1_n p1_cells) H → va_D A (w_X6_closedPower Y h_t h_p1 B_t B_p1 t_things t_unknowns t_prime t_leads t_equation t_steps p1_n p1_cells) → va_S A s.heap H locs → K r t_things t_unknowns t_prime t_leads t_equation t_steps → decode cX6_closedPower pc = .ok (.ireturn, 1) → W p l e R s m args below meth c H locs 0 0 Q (F0 m pc ls [.int r])) (hP : va_P G vwCl (w_X6_closedPower Y h_t h_p1 B_t B_p1 t_things t_unknowns t_prime t_leads t_equation t_steps p1_n p1_cells) s.heap) (hD : va_D A (w_X6_closedPower Y h_t h_p1 B_t B_p1 t_things t_unknowns t_prime t_leads t_equation t_steps p1_n p1_cells)) (h : pX6_closedPower t_things t_unknowns t_prime t_leads t_equation t_steps p1_n p1_cells x2 K) : W p l e R s m args below meth c s.heap [] 0 0 Q (entryFrame m ([.ref h_t, .ref h_p1, .int x2] : List Value).toArray 7) := by
  have inX6 : ∀ w ∈ u_ws RX6 TX6 6, w ∈ wsX6_closedPower := by decide +kernel
  have inX7 : ∀ w ∈ u_ws RX7 TX7 2, w ∈ wsX6_closedPower := by decide +kernel
  have hf18 := hts (.fieldLink RX6 18 "RackBench$Solver" "things" "I") (by decide +kernel)
  have hf22 := hts (.fieldLink RX6 22 "RackBench$Solver" "unknowns" "I") (by decide +kernel)
  have hf25 := hts (.fieldLink RX6 25 "RackBench$Solver" "prime" "I") (by decide +kernel)
  have hf28 := hts (.fieldLink RX6 28 "RackBench$Solver" "leads" "J") (by decide +kernel)
  have hl := lv_entry ([.ref h_t, .ref h_p1, .int x2]) (n := 7) (Nat.le_of_ble_eq_true rfl)
  rw [lg_entry_eq]
  generalize (lg_sl ([.ref h_t, .ref h_p1, .int x2]) ++ List.replicate (7 - (lg_sl ([.ref h_t, .ref h_p1, .int x2])).length) Slot.unset).toArray = ls at hl ⊢
  have hl : lv_has ls 7 [(0, .ref h_t), (1, .ref h_p1), (2, .int x2)] := hl
  generalize hH0 : s.heap = H at hP ⊢
  have hS : va_S A s.heap H [] := by rw [← hH0]; exact va_S.rf
  clear hH0
  generalize ([] : List Loc) = locs at hS ⊢
  refine lv_aload_n hx hb dX6_closedPower_0 rfl (lv_at hl 0 rfl) ?_
  refine lv_iload_n hx hb dX6_closedPower_1 rfl (lv_at hl 2 rfl) ?_
  refine va_put (D := G) (ci := 5) (v := .int x2) (ty := .int) (C := RX6) (T := TX6) (N := 6) hx hb hts inX6 tyX6 tyX6_ok nmX6 hown hK hP hD hS 0 rfl rfl 4 (by decide) hf25 (fun _ h9 => h9) rfl (by decide +kernel) rfl rfl (Nat.le_of_ble_eq_true rfl) dX6_closedPower_2 (fun H locs hP hD hS => ?_)
  have hP : va_P G vwCl (w_X6_closedPower Y h_t h_p1 B_t B_p1 t_things t_unknowns x2 t_leads t_equation t_steps p1_n p1_cells) H := hP
  have hD : va_D A (w_X6_closedPower Y h_t h_p1 B_t B_p1 t_things t_unknowns x2 t_leads t_equation t_steps p1_n p1_cells) := hD
  refine lv_aload_n hx hb dX6_closedPower_5 rfl (lv_at hl 0 rfl) ?_
  refine lv_aload_n hx hb dX6_closedPower_6 rfl (lv_at hl 1 rfl) ?_
  refine va_getN (D := G) (ci := 6) (v := .int p1_n) (C := RX7) (T := TX7) (N := 2) hx hb hts inX7 hown hK hP 3 rfl rfl 1 (by decide) (hE.nest args 12 _ rfl) (fun _ h9 => h9) rfl dX6_closedPower_7 ?_
  refine va_put (D := G) (ci := 5) (v := .int p1_n) (ty := .int) (C := RX6) (T := TX6) (N := 6) hx hb hts inX6 tyX6 tyX6_ok nmX6 hown hK hP hD hS 0 rfl rfl 2 (by decide) hf18 (fun _ h9 => h9) rfl (by decide +kernel) rfl rfl (Nat.le_of_ble_eq_true rfl) dX6_closedPower_10 (fun H locs hP hD hS => ?_)
  have hP : va_P G vwCl (w_X6_closedPower Y h_t h_p1 B_t B_p1 p1_n t_unknowns x2 t_leads t_equation t_steps p1_n p1_cells) H := hP
  have hD : va_D A (w_X6_closedPower Y h_t h_p1 B_t B_p1 p1_n t_unknowns x2 t_leads t_equation t_steps p1_n p1_cells) := hD
  refine lv_aload_n hx hb dX6_closedPower_13 rfl (lv_at hl 0 rfl) ?_
  refine lv_aload_n hx hb dX6_closedPower_14 rfl (lv_at hl 0 rfl) ?_
  refine va_get (D := G) (ci := 5) (v := .int p1_n) (C := RX6) (T := TX6) (N := 6) hx hb hts inX6 hown hK hP 0 rfl rfl 2 (by decide) hf18 (fun _ h9 => h9) rfl dX6_closedPower_15 ?_
  refine lv_aload_n hx hb dX6_closedPower_18 rfl (lv_at hl 0 rfl) ?_
  refine va_get (D := G) (ci := 5) (v := .int p1_n) (C := RX6) (T := TX6) (N := 6) hx hb hts inX6 hown hK hP 0 rfl rfl 2 (by decide) hf18 (fun _ h9 => h9) rfl dX6_closedPower_19 ?_
  refine lv_imul hx hb dX6_closedPower_22 ?_
  refine va_put (D := G) (ci := 5) (v := .int (p1_n * p1_n)) (ty := .int) (C := RX6) (T := TX6) (N := 6) hx hb hts inX6 tyX6 tyX6_ok nmX6 hown hK hP hD hS 0 rfl rfl 3 (by decide) hf22 (fun _ h9 => h9) rfl (by decide +kernel) rfl rfl (Nat.le_of_ble_eq_true rfl) dX6_closedPower_23 (fun H locs hP hD hS => ?_)
  have hP : va_P G vwCl (w_X6_closedPower Y h_t h_p1 B_t B_p1 p1_n (p1_n * p1_n) x2 t_leads t_equation t_steps p1_n p1_cells) H := hP
  have hD : va_D A (w_X6_closedPower Y h_t h_p1 B_t B_p1 p1_n (p1_n * p1_n) x2 t_leads t_equation t_steps p1_n p1_cells) := hD
  refine lv_aload_n hx hb dX6_closedPower_26 rfl (lv_at hl 0 rfl) ?_
  refine lv_lconst (v := 0) hx hb dX6_closedPower_27 (by decide) ?_
  refine va_put (D := G) (ci := 5) (v := .long (0 : Int64)) (ty := .long) (C := RX6) (T := TX6) (N := 6) hx hb hts inX6 tyX6 tyX6_ok nmX6 hown hK hP hD hS 0 rfl rfl 5 (by decide) hf28 (fun _ h9 => h9) rfl (by decide +kernel) rfl rfl (Nat.le_of_ble_eq_true rfl) dX6_closedPower_28 (fun H locs hP hD hS => ?_)
  have hP : va_P G vwCl (w_X6_closedPower Y h_t h_p1 B_t B_p1 p1_n (p1_n * p1_n) x2 (0 : Int64) t_equation t_steps p1_n p1_cells) H := hP
  have hD : va_D A (w_X6_closedPower Y h_t h_p1 B_t B_p1 p1_n (p1_n * p1_n) x2 (0 : Int64) t_equation t_steps p1_n p1_cells) := hD
  refine lv_aload_n hx hb dX6_closedPower_31 rfl (lv_at hl 0 rfl) ?_
  refine va_get (D := G) (ci := 5) (v := .int (p1_n * p1_n)) (C := RX6) (T := TX6) (N := 6) hx hb hts inX6 hown hK hP 0 rfl rfl 3 (by decide) hf22 (fun _ h9 => h9) rfl dX6_closedPower_32 ?_
  refine lv_istore_n (lv' := [(3, .int (p1_n * p1_n)), (0, .ref h_t), (1, .ref h_p1), (2, .int x2)]) hx hb dX6_closedPower_35 rfl hl (by decide) rfl (fun ls hl => ?_)
  refine lv_iconst (v := 0) hx hb dX6_closedPower_36 (by decide) ?_
  refine lv_istore (lv' := [(4, .int (0 : Int32)), (3, .int (p1_n * p1_n)), (0, .ref h_t), (1, .ref h_p1), (2, .int x2)]) hx hb dX6_closedPower_37 hl (by decide) rfl (fun ls hl => ?_)
  obtain ⟨I39, m39, hI39, hB39⟩ := h
  have L39 : ∀ (t_things : Int32) (t_unknowns : Int32) (t_prime : Int32) (I39 : Int32 → Int32 → Int64 → (Nat → Int32) → (Nat → Int32) → Prop) (m39 : Int32 → Int32 → Int64 → (Nat → Int32) → (Nat → Int32) → Nat), (∀ (x3 : Int32) (x4 : Int32) (t_leads : Int64) (t_equation : Nat → Int32) (t_steps : Nat → Int32), I39 x3 x4 t_leads t_equation t_steps → pX6_closedPower_39 p1_n p1_cells K t_things t_unknowns t_prime x3 x4 t_leads t_equation t_steps (fun x3' x4' t_leads' t_equation' t_steps' => I39 x3' x4' t_leads' t_equation' t_steps' ∧ m39 x3' x4' t_leads' t_equation' t_steps' < m39 x3 x4 t_leads t_equation t_steps)) → ∀ (n : Nat) (x3 : Int32) (x4 : Int32) (t_leads : Int64) (t_equation : Nat → Int32) (t_steps : Nat → Int32) (H : Heap) (locs : List Loc) (ls : Array Slot), I39 x3 x4 t_leads t_equation t_steps → m39 x3 x4 t_leads t_equation t_steps < n → va_P G vwCl (w_X6_closedPower Y h_t h_p1 B_t B_p1 t_things t_unknowns t_prime t_leads t_equation t_steps p1_n p1_cells) H → va_D A (w_X6_closedPower Y h_t h_p1 B_t B_p1 t_things t_unknowns t_prime t_leads t_equation t_steps p1_n p1_cells) → va_S A s.heap H locs → lv_has ls 7 [(0, .ref h_t), (1, .ref h_p1), (3, .int x3), (4, .int x4)] → W p l e R s m args below meth c H locs 0 0 Q (F0 m 39 ls []) := by
    intro t_things t_unknowns t_prime I39 m39 hB39 n
    induction n with
    | zero => intro x3 x4 t_leads t_equation t_steps H locs ls _ hm; exact absurd hm (Nat.not_lt_zero _)
    | succ n ih =>
      intro x3 x4 t_leads t_equation t_steps H locs ls hI hm hP hD hS hl
      obtain ⟨R39, h, rec39⟩ : ∃ R39 : Int32 → Int32 → Int64 → (Nat → Int32) → (Nat → Int32) → Prop, pX6_closedPower_39 p1_n p1_cells K t_things t_unknowns t_prime x3 x4 t_leads t_equation t_steps R39 ∧ ∀ (x3 : Int32) (x4 : Int32) (t_leads : Int64) (t_equation : Nat → Int32) (t_steps : Nat → Int32) (H : Heap) (locs : List Loc) (ls : Array Slot), R39 x3 x4 t_leads t_equation t_steps → va_P G vwCl (w_X6_closedPower Y h_t h_p1 B_t B_p1 t_things t_unknowns t_prime t_leads t_equation t_steps p1_n p1_cells) H → va_D A (w_X6_closedPower Y h_t h_p1 B_t B_p1 t_things t_unknowns t_prime t_leads t_equation t_steps p1_n p1_cells) → va_S A s.heap H locs → lv_has ls 7 [(0, .ref h_t), (1, .ref h_p1), (3, .int x3), (4, .int x4)] → W p l e R s m args below meth c H locs 0 0 Q (F0 m 39 ls []) := ⟨_, hB39 x3 x4 t_leads t_equation t_steps hI, fun x3 x4 t_leads t_equation t_steps H locs ls hh hP hD hS hl => ih x3 x4 t_leads t_equation t_steps H locs ls hh.1 (Nat.lt_of_lt_of_le hh.2 (Nat.le_of_lt_succ hm)) hP hD hS hl⟩
      refine lv_iload hx hb dX6_closedPower_39 (lv_at hl 3 rfl) ?_
      refine lv_aload_n hx hb dX6_closedPower_41 rfl (lv_at hl 1 rfl) ?_
      refine va_getN (D := G) (ci := 6) (v := .int p1_n) (C := RX7) (T := TX7) (N := 2) hx hb hts inX7 hown hK hP 3 rfl rfl 1 (by decide) (hE.nest args 12 _ rfl) (fun _ h9 => h9) rfl dX6_closedPower_42 ?_
      obtain ⟨ht, hf⟩ := h
      refine lv_icmp_ge (tgt := 111) hx hb dX6_closedPower_45 (by decide) (fun c9 => ?_) (fun c9 => ?_)
      · have h := ht c9
        refine lv_iload_n hx hb dX6_closedPower_111 rfl (lv_at hl 2 rfl) ?_
        exact hret x3 t_things t_unknowns t_prime t_leads t_equation t_steps H locs ls _ hP hD hS h dX6_closedPower_112
      · have h := hf c9
        refine lv_iconst (v := 0) hx hb dX6_closedPower_48 (by decide) ?_
        refine lv_istore (lv' := [(5, .int (0 : Int32)), (0, .ref h_t), (1, .ref h_p1), (3, .int x3), (4, .int x4)]) hx hb dX6_closedPower_49 hl (by decide) rfl (fun ls hl => ?_)
        obtain ⟨I51, m51, hI51, hB51⟩ := h
        have L51 : ∀ (x4 : Int32) (I51 : Int32 → Int32 → Int64 → (Nat → Int32) → (Nat → Int32) → Prop) (m51 : Int32 → Int32 → Int64 → (Nat → Int32) → (Nat → Int32) → Nat), (∀ (x3 : Int32) (x5 : Int32) (t_leads : Int64) (t_equation : Nat → Int32) (t_steps : Nat → Int32), I51 x3 x5 t_leads t_equation t_steps → pX6_closedPower_51 p1_n p1_cells R39 K t_things t_unknowns t_prime x4 x3 x5 t_leads t_equation t_steps (fun x3' x5' t_leads' t_equation' t_steps' => I51 x3' x5' t_leads' t_equation' t_steps' ∧ m51 x3' x5' t_leads' t_equation' t_steps' < m51 x3 x5 t_leads t_equation t_steps)) → ∀ (n : Nat) (x3 : Int32) (x5 : Int32) (t_leads : Int64) (t_equation : Nat → Int32) (t_steps : Nat → Int32) (H : Heap) (locs : List Loc) (ls : Array Slot), I51 x3 x5 t_leads t_equation t_steps → m51 x3 x5 t_leads t_equation t_steps < n → va_P G vwCl (w_X6_closedPower Y h_t h_p1 B_t B_p1 t_things t_unknowns t_prime t_leads t_equation t_steps p1_n p1_cells) H → va_D A (w_X6_closedPower Y h_t h_p1 B_t B_p1 t_things t_unknowns t_prime t_leads t_equation t_steps p1_n p1_cells) → va_S A s.heap H locs → lv_has ls 7 [(0, .ref h_t), (1, .ref h_p1), (3, .int x3), (4, .int x4), (5, .int x5)] → W p l e R s m args below meth c H locs 0 0 Q (F0 m 51 ls []) := by
          intro x4 I51 m51 hB51 n
          induction n with
          | zero => intro x3 x5 t_leads t_equation t_steps H locs ls _ hm; exact absurd hm (Nat.not_lt_zero _)
          | succ n ih =>
            intro x3 x5 t_leads t_equation t_steps H locs ls hI hm hP hD hS hl
            obtain ⟨R51, h, rec51⟩ : ∃ R51 : Int32 → Int32 → Int64 → (Nat → Int32) → (Nat → Int32) → Prop, pX6_closedPower_51 p1_n p1_cells R39 K t_things t_unknowns t_prime x4 x3 x5 t_leads t_equation t_steps R51 ∧ ∀ (x3 : Int32) (x5 : Int32) (t_leads : Int64) (t_equation : Nat → Int32) (t_steps : Nat → Int32) (H : Heap) (locs : List Loc) (ls : Array Slot), R51 x3 x5 t_leads t_equation t_steps → va_P G vwCl (w_X6_closedPower Y h_t h_p1 B_t B_p1 t_things t_unknowns t_prime t_leads t_equation t_steps p1_n p1_cells) H → va_D A (w_X6_closedPower Y h_t h_p1 B_t B_p1 t_things t_unknowns t_prime t_leads t_equation t_steps p1_n p1_cells) → va_S A s.heap H locs → lv_has ls 7 [(0, .ref h_t), (1, .ref h_p1), (3, .int x3), (4, .int x4), (5, .int x5)] → W p l e R s m args below meth c H locs 0 0 Q (F0 m 51 ls []) := ⟨_, hB51 x3 x5 t_leads t_equation t_steps hI, fun x3 x5 t_leads t_equation t_steps H locs ls hh hP hD hS hl => ih x3 x5 t_leads t_equation t_steps H locs ls hh.1 (Nat.lt_of_lt_of_le hh.2 (Nat.le_of_lt_succ hm)) hP hD hS hl⟩
            refine lv_iload hx hb dX6_closedPower_51 (lv_at hl 4 rfl) ?_
            refine lv_aload_n hx hb dX6_closedPower_53 rfl (lv_at hl 1 rfl) ?_
            refine va_getN (D := G) (ci := 6) (v := .int p1_n) (C := RX7) (T := TX7) (N := 2) hx hb hts inX7 hown hK hP 3 rfl rfl 1 (by decide) (hE.nest args 12 _ rfl) (fun _ h9 => h9) rfl dX6_closedPower_54 ?_
            obtain ⟨ht, hf⟩ := h
            refine lv_icmp_ge (tgt := 105) hx hb dX6_closedPower_57 (by decide) (fun c9 => ?_) (fun c9 => ?_)
            · have h := ht c9
              refine lv_iinc (v := (x4 + 1)) (lv' := [(4, .int (x4 + 1)), (0, .ref h_t), (1, .ref h_p1), (3, .int x3), (5, .int x5)]) hx hb dX6_closedPower_105 hl (k := 3) rfl rfl (by decide) rfl (fun ls hl => ?_)
              refine lv_goto (tgt := 39) hx hb dX6_closedPower_108 (by decide) ?_
              exact rec39 x3 (x4 + 1) t_leads t_equation t_steps H locs ls h hP hD hS (lv_sub hl [1, 2, 3, 0] rfl)
            · have h := hf c9
              refine lv_iconst (v := 0) hx hb dX6_closedPower_60 (by decide) ?_
              refine lv_istore (lv' := [(6, .int (0 : Int32)), (0, .ref h_t), (1, .ref h_p1), (3, .int x3), (4, .int x4), (5, .int x5)]) hx hb dX6_closedPower_61 hl (by decide) rfl (fun ls hl => ?_)
              obtain ⟨I63, m63, hI63, hB63⟩ := h
              have L63 : ∀ (x5 : Int32) (I63 : Int32 → Int32 → Int64 → (Nat → Int32) → (Nat → Int32) → Prop) (m63 : Int32 → Int32 → Int64 → (Nat → Int32) → (Nat → Int32) → Nat), (∀ (x3 : Int32) (x6 : Int32) (t_leads : Int64) (t_equation : Nat → Int32) (t_steps : Nat → Int32), I63 x3 x6 t_leads t_equation t_steps → pX6_closedPower_63 p1_n p1_cells R39 R51 K t_things t_unknowns t_prime x4 x5 x3 x6 t_leads t_equation t_steps (fun x3' x6' t_leads' t_equation' t_steps' => I63 x3' x6' t_leads' t_equation' t_steps' ∧ m63 x3' x6' t_leads' t_equation' t_steps' < m63 x3 x6 t_leads t_equation t_steps)) → ∀ (n : Nat) (x3 : Int32) (x6 : Int32) (t_leads : Int64) (t_equation : Nat → Int32) (t_steps : Nat → Int32) (H : Heap) (locs : List Loc) (ls : Array Slot), I63 x3 x6 t_leads t_equation t_steps → m63 x3 x6 t_leads t_equation t_steps < n → va_P G vwCl (w_X6_closedPower Y h_t h_p1 B_t B_p1 t_things t_unknowns t_prime t_leads t_equation t_steps p1_n p1_cells) H → va_D A (w_X6_closedPower Y h_t h_p1 B_t B_p1 t_things t_unknowns t_prime t_leads t_equation t_steps p1_n p1_cells) → va_S A s.heap H locs → lv_has ls 7 [(0, .ref h_t), (1, .ref h_p1), (3, .int x3), (4, .int x4), (5, .int x5), (6, .int x6)] → W p l e R s m args below meth c H locs 0 0 Q (F0 m 63 ls []) := by
                intro x5 I63 m63 hB63 n
                induction n with
                | zero => intro x3 x6 t_leads t_equation t_steps H locs ls _ hm; exact absurd hm (Nat.not_lt_zero _)
                | succ n ih =>
                  intro x3 x6 t_leads t_equation t_steps H locs ls hI hm hP hD hS hl
                  obtain ⟨R63, h, rec63⟩ : ∃ R63 : Int32 → Int32 → Int64 → (Nat → Int32) → (Nat → Int32) → Prop, pX6_closedPower_63 p1_n p1_cells R39 R51 K t_things t_unknowns t_prime x4 x5 x3 x6 t_leads t_equation t_steps R63 ∧ ∀ (x3 : Int32) (x6 : Int32) (t_leads : Int64) (t_equation : Nat → Int32) (t_steps : Nat → Int32) (H : Heap) (locs : List Loc) (ls : Array Slot), R63 x3 x6 t_leads t_equation t_steps → va_P G vwCl (w_X6_closedPower Y h_t h_p1 B_t B_p1 t_things t_unknowns t_prime t_leads t_equation t_steps p1_n p1_cells) H → va_D A (w_X6_closedPower Y h_t h_p1 B_t B_p1 t_things t_unknowns t_prime t_leads t_equation t_steps p1_n p1_cells) → va_S A s.heap H locs → lv_has ls 7 [(0, .ref h_t), (1, .ref h_p1), (3, .int x3), (4, .int x4), (5, .int x5), (6, .int x6)] → W p l e R s m args below meth c H locs 0 0 Q (F0 m 63 ls []) := ⟨_, hB63 x3 x6 t_leads t_equation t_steps hI, fun x3 x6 t_leads t_equation t_steps H locs ls hh hP hD hS hl => ih x3 x6 t_leads t_equation t_steps H locs ls hh.1 (Nat.lt_of_lt_of_le hh.2 (Nat.le_of_lt_succ hm)) hP hD hS hl⟩
                  refine lv_iload hx hb dX6_closedPower_63 (lv_at hl 5 rfl) ?_
                  refine lv_aload_n hx hb dX6_closedPower_65 rfl (lv_at hl 1 rfl) ?_
                  refine va_getN (D := G) (ci := 6) (v := .int p1_n) (C := RX7) (T := TX7) (N := 2) hx hb hts inX7 hown hK hP 3 rfl rfl 1 (by decide) (hE.nest args 12 _ rfl) (fun _ h9 => h9) rfl dX6_closedPower_66 ?_
                  obtain ⟨ht, hf⟩ := h
                  refine lv_icmp_ge (tgt := 99) hx hb dX6_closedPower_69 (by decide) (fun c9 => ?_) (fun c9 => ?_)
                  · have h := ht c9
                    refine lv_iinc (v := (x5 + 1)) (lv' := [(5, .int (x5 + 1)), (0, .ref h_t), (1, .ref h_p1), (3, .int x3), (4, .int x4), (6, .int x6)]) hx hb dX6_closedPower_99 hl (k := 4) rfl rfl (by decide) rfl (fun ls hl => ?_)
                    refine lv_goto (tgt := 51) hx hb dX6_closedPower_102 (by decide) ?_
                    exact rec51 x3 (x5 + 1) t_leads t_equation t_steps H locs ls h hP hD hS (lv_sub hl [1, 2, 3, 4, 0] rfl)
                  · have h := hf c9
                    refine lv_aload_n hx hb dX6_closedPower_72 rfl (lv_at hl 0 rfl) ?_
                    refine lv_aload_n hx hb dX6_closedPower_73 rfl (lv_at hl 1 rfl) ?_
                    refine lv_iload hx hb dX6_closedPower_74 (lv_at hl 3 rfl) ?_
                    refine lv_iload hx hb dX6_closedPower_76 (lv_at hl 4 rfl) ?_
                    refine lv_iload hx hb dX6_closedPower_78 (lv_at hl 5 rfl) ?_
                    refine mc_vV ⟨hx, hb, hml, hown, hts⟩ hK hE hA hP hD hS (c_X6_tellEquation l G Y tF H.size h_t h_p1 B_t B_p1 t_things t_unknowns t_prime t_leads t_equation p1_n p1_cells x4 x5 x6 h) (cwV 4 hts gX6_closedPower_X6_tellEquation rfl rfl rfl (by decide +kernel) ⟨Nat.le_trans (by decide) hRf, Nat.le_trans (by decide) hRl⟩) (fun u => (w_X6_closedPower Y h_t h_p1 B_t B_p1 t_things t_unknowns t_prime t_leads u t_steps p1_n p1_cells)) [0, 1, 3, 4] [2] [1, 2, 0, 3, 4] rfl rfl rfl rfl (by decide) (fun _ => rfl) rfl 0 5 rfl rfl rfl rfl hl.1 rfl (Nat.le_of_ble_eq_true rfl) dX6_closedPower_80 (fun u H locs h hP hD hS => ?_)
                    obtain ⟨t_equation_80, rfl⟩ : ∃ z, z = u := ⟨_, rfl⟩
                    try dsimp only at h
                    have hP : va_P G vwCl (w_X6_closedPower Y h_t h_p1 B_t B_p1 t_things t_unknowns t_prime t_leads t_equation_80 t_steps p1_n p1_cells) H := hP
                    have hD : va_D A (w_X6_closedPower Y h_t h_p1 B_t B_p1 t_things t_unknowns t_prime t_leads t_equation_80 t_steps p1_n p1_cells) := hD
                    refine lv_aload_n hx hb dX6_closedPower_83 rfl (lv_at hl 0 rfl) ?_
                    refine mc_iV ⟨hx, hb, hml, hown, hts⟩ hK hE hA hP hD hS (c_X6_bindsOne l G Y tF H.size h_t B_t t_things t_unknowns t_prime t_leads t_equation_80 t_steps h) (cwV 0 hts gX6_closedPower_X6_bindsOne rfl rfl rfl (by decide +kernel) ⟨Nat.le_trans (by decide) hRf, Nat.le_trans (by decide) hRl⟩) (fun u => (w_X6_closedPower Y h_t h_p1 B_t B_p1 t_things t_unknowns t_prime u.1 u.2.1 u.2.2 p1_n p1_cells)) [0, 1, 2] [3, 4] [2, 3, 4, 0, 1] rfl rfl rfl rfl (by decide) (fun _ => rfl) rfl 0 5 rfl rfl rfl rfl hl.1 rfl (Nat.le_of_ble_eq_true rfl) dX6_closedPower_84 (fun r84 u H locs h hP hD hS => ?_)
                    obtain ⟨t_leads_84, t_equation_84, t_steps_84⟩ := u
                    try dsimp only at h
                    have hP : va_P G vwCl (w_X6_closedPower Y h_t h_p1 B_t B_p1 t_things t_unknowns t_prime t_leads_84 t_equation_84 t_steps_84 p1_n p1_cells) H := hP
                    have hD : va_D A (w_X6_closedPower Y h_t h_p1 B_t B_p1 t_things t_unknowns t_prime t_leads_84 t_equation_84 t_steps_84 p1_n p1_cells) := hD
                    obtain ⟨ht, hf⟩ := h
                    refine lv_if_eq (tgt := 93) hx hb dX6_closedPower_87 (by decide) (fun c9 => ?_) (fun c9 => ?_)
                    · have h := ht c9
                      refine lv_iinc (v := (x6 + 1)) (lv' := [(6, .int (x6 + 1)), (0, .ref h_t), (1, .ref h_p1), (3, .int x3), (4, .int x4), (5, .int x5)]) hx hb dX6_closedPower_93 hl (k := 5) rfl rfl (by decide) rfl (fun ls hl => ?_)
                      refine lv_goto (tgt := 63) hx hb dX6_closedPower_96 (by decide) ?_
                      exact rec63 x3 (x6 + 1) t_leads_84 t_equation_84 t_steps_84 H locs ls h hP hD hS (lv_sub hl [1, 2, 3, 4, 5, 0] rfl)
                    · have h := hf c9
                      refine lv_iinc (v := (x3 + (-1))) (lv' := [(3, .int (x3 + (-1))), (0, .ref h_t), (1, .ref h_p1), (4, .int x4), (5, .int x5), (6, .int x6)]) hx hb dX6_closedPower_90 hl (k := 2) rfl rfl (by decide) rfl (fun ls hl => ?_)
                      refine lv_iinc (v := (x6 + 1)) (lv' := [(6, .int (x6 + 1)), (3, .int (x3 + (-1))), (0, .ref h_t), (1, .ref h_p1), (4, .int x4), (5, .int x5)]) hx hb dX6_closedPower_93 hl (k := 5) rfl rfl (by decide) rfl (fun ls hl => ?_)
                      refine lv_goto (tgt := 63) hx hb dX6_closedPower_96 (by decide) ?_
                      exact rec63 (x3 + (-1)) (x6 + 1) t_leads_84 t_equation_84 t_steps_84 H locs ls h hP hD hS (lv_sub hl [2, 3, 1, 4, 5, 0] rfl)
              exact L63 x5 I63 m63 hB63 _ x3 (0 : Int32) t_leads t_equation t_steps H locs ls hI63 (Nat.lt_succ_self _) hP hD hS (lv_sub hl [1, 2, 3, 4, 5, 0] rfl)
        exact L51 x4 I51 m51 hB51 _ x3 (0 : Int32) t_leads t_equation t_steps H locs ls hI51 (Nat.lt_succ_self _) hP hD hS (lv_sub hl [1, 2, 3, 4, 0] rfl)
  exact L39 p1_n (p1_n * p1_n) x2 I39 m39 hB39 _ (p1_n * p1_n) (0 : Int32) (0 : Int64) t_equation t_steps H locs ls hI39 (Nat.lt_succ_self _) hP hD hS (lv_sub hl [2, 3, 1, 0] rfl)

set_option maxHeartbeats 4000000 in
set_option maxRecDepth 100000 in
theorem c_X6_closedPower (l : Launch) (G : va_G) (Y : Nat → ClassId) (tF sz : Nat) (h_t : Nat) (h_p1 : Nat) (B_t : Nat → Nat) (B_p1 : Nat → Nat) (t_things : Int32) (t_unknowns : Int32) (t_prime : Int32) (t_leads : Int64) (t_equation : Nat → Int32) (t_steps : Nat → Int32) (p1_n : Int32) (p1_cells : Nat → Int32) (x2 : Int32) {K : Int32 → Int32 → Int32 → Int32 → Int64 → (Nat → Int32) → (Nat → Int32) → Prop} (h : pX6_closedPower t_things t_unknowns t_prime t_leads t_equation t_steps p1_n p1_cells x2 K) : Met l yX6_closedPower wsX6_closedPower ({ frames := 3, cells := 0, slots := 0, locals := 66 }) (PcM G Y tF sz (w_X6_closedPower Y h_t h_p1 B_t B_p1 t_things t_unknowns t_prime t_leads t_equation t_steps p1_n p1_cells) [.ref h_t, .ref h_p1, .int x2]) (va_Qi (fun (r : Int32) (u : Int32 × Int32 × Int32 × Int64 × (Nat → Int32) × (Nat → Int32)) => K r u.1 u.2.1 u.2.2.1 u.2.2.2.1 u.2.2.2.2.1 u.2.2.2.2.2) (fun u t => BM G Y (va_A (w_X6_closedPower Y h_t h_p1 B_t B_p1 t_things t_unknowns t_prime t_leads t_equation t_steps p1_n p1_cells) sz) (w_X6_closedPower Y h_t h_p1 B_t B_p1 u.1 u.2.1 u.2.2.1 u.2.2.2.1 u.2.2.2.2.1 u.2.2.2.2.2 p1_n p1_cells) t) (va_A (w_X6_closedPower Y h_t h_p1 B_t B_p1 t_things t_unknowns t_prime t_leads t_equation t_steps p1_n p1_cells) sz)) 0 0 (va_A (w_X6_closedPower Y h_t h_p1 B_t B_p1 t_things t_unknowns t_prime t_leads t_equation t_steps p1_n p1_cells) sz) := by
  refine Met.ofW (cc := cX6_closedPower) (maxL := 7) (ret := (some .int)) (by decide +kernel) rfl ?_
  intro p e s m args below meth c s₁ B hml hv
  obtain ⟨rfl, hsz, hP, hK, hD0, hE⟩ := hv
  have hts := atoms_spec (ws := wsX6_closedPower) B.pre
  have hown : s.vm.findClass RX6 = some m.cls := findClass_of_methodNamed B.named
  have hlocks := B.notSynchronized
  subst hsz
  have hD := hD0.self (sz := s.heap.size)
  exact wk_X6_closedPower h_t h_p1 B_t B_p1 t_things t_unknowns t_prime t_leads t_equation t_steps p1_n p1_cells x2 B.exec B.bytes hml hown hts hK hE (fun q h => Or.inr h) (Nat.le_refl _) (Nat.le_refl _) (fun r t_things t_unknowns t_prime t_leads t_equation t_steps H locs ls pc hP hD hS hk hd => W.iret (v := r) B.exec B.bytes B.returns (fun t ht hW => ⟨⟨r, (t_things, t_unknowns, t_prime, t_leads, t_equation, t_steps), rfl, hk, by rw [ht]; exact hP, va_K.moved hW.alike hK, hD⟩, hS.F ht⟩) hS.2.2 hd) hP hD h

abbrev w_X8_sift (Y : Nat → ClassId) (h_t : Nat) (B_t : Nat → Nat) (t_sieve : Nat → Int32) : va_W := [(h_t, .inr (7, [.ref (B_t 0), .ref (B_t 1), .ref (B_t 2)])), ((B_t 0), .inl (Y 0, 64, .inl t_sieve))]

set_option maxHeartbeats 4000000 in
set_option maxRecDepth 100000 in
theorem wk_X8_sift {p : Program} {l : Launch} {e : Env} {R : Room} {s : State} {m : MethodId} {args : Array Value} {below : List Frame} {meth : Method} {c : Code} {Q : State → Prop} {G : va_G} {Y : Nat → ClassId} {tF : Nat} {A : Nat → Prop} (h_t : Nat) (B_t : Nat → Nat) (t_sieve : Nat → Int32) (x1 : Int32) (x2 : Int32) {K : (Nat → Int32) → Prop} (hx : p.tables.exec = Jvm.exec) (hb : c.code = cX8_sift) (hml : c.maxLocals = 7) (hown : s.vm.findClass RX8 = some m.cls) (hts : ∀ w ∈ wsX8_sift, w.before args s = true) (hK : va_K G vwCl (tyL Y) s) (hE : Ev A tF s) (hA : ∀ q, s.heap.size ≤ q → A q) (hRf : 2 ≤ R.frames) (hRl : 46 ≤ R.locals) (hret : ∀ (t_sieve : Nat → Int32) (H : Heap) (locs : List Loc) (ls : Array Slot) (pc : Nat), va_P G vwCl (w_X8_sift Y h_t B_t t_sieve) H → va_D A (w_X8_sift Y h_t B_t t_sieve) → va_S A s.heap H locs → K t_sieve → decode cX8_sift pc = .ok (.return_, 1) → W p l e R s m args below meth c H locs 0 0 Q (F0 m pc ls [])) (hP : va_P G vwCl (w_X8_sift Y h_t B_t t_sieve) s.heap) (hD : va_D A (w_X8_sift Y h_t B_t t_sieve)) (h : pX8_sift t_sieve x1 x2 K) : W p l e R s m args below meth c s.heap [] 0 0 Q (entryFrame m ([.ref h_t, .int x1, .int x2] : List Value).toArray 7) := by
  have inX8 : ∀ w ∈ u_ws RX8 TX8 3, w ∈ wsX8_sift := by decide +kernel
  have hf9 := hts (.fieldLink RX8 9 "RackBench$TurnGroup" "sieve" "[I") (by decide +kernel)
  have hl := lv_entry ([.ref h_t, .int x1, .int x2]) (n := 7) (Nat.le_of_ble_eq_true rfl)
  rw [lg_entry_eq]
  generalize (lg_sl ([.ref h_t, .int x1, .int x2]) ++ List.replicate (7 - (lg_sl ([.ref h_t, .int x1, .int x2])).length) Slot.unset).toArray = ls at hl ⊢
  have hl : lv_has ls 7 [(0, .ref h_t), (1, .int x1), (2, .int x2)] := hl
  generalize hH0 : s.heap = H at hP ⊢
  have hS : va_S A s.heap H [] := by rw [← hH0]; exact va_S.rf
  clear hH0
  generalize ([] : List Loc) = locs at hS ⊢
  refine lv_iload_n hx hb dX8_sift_0 rfl (lv_at hl 1 rfl) ?_
  refine lv_istore_n (lv' := [(3, .int x1), (0, .ref h_t), (1, .int x1), (2, .int x2)]) hx hb dX8_sift_1 rfl hl (by decide) rfl (fun ls hl => ?_)
  refine lv_iconst (v := 0) hx hb dX8_sift_2 (by decide) ?_
  refine lv_istore (lv' := [(4, .int (0 : Int32)), (3, .int x1), (0, .ref h_t), (1, .int x1), (2, .int x2)]) hx hb dX8_sift_3 hl (by decide) rfl (fun ls hl => ?_)
  obtain ⟨I5, m5, hI5, hB5⟩ := h
  have L5 : ∀ (x2 : Int32) (t_sieve : Nat → Int32) (I5 : Int32 → Int32 → Prop) (m5 : Int32 → Int32 → Nat), (∀ (x3 : Int32) (x4 : Int32), I5 x3 x4 → pX8_sift_5 K x2 t_sieve x3 x4 (fun x3' x4' => I5 x3' x4' ∧ m5 x3' x4' < m5 x3 x4)) → ∀ (n : Nat) (x3 : Int32) (x4 : Int32) (H : Heap) (locs : List Loc) (ls : Array Slot), I5 x3 x4 → m5 x3 x4 < n → va_P G vwCl (w_X8_sift Y h_t B_t t_sieve) H → va_D A (w_X8_sift Y h_t B_t t_sieve) → va_S A s.heap H locs → lv_has ls 7 [(0, .ref h_t), (2, .int x2), (3, .int x3), (4, .int x4)] → W p l e R s m args below meth c H locs 0 0 Q (F0 m 5 ls []) := by
    intro x2 t_sieve I5 m5 hB5 n
    induction n with
    | zero => intro x3 x4 H locs ls _ hm; exact absurd hm (Nat.not_lt_zero _)
    | succ n ih =>
      intro x3 x4 H locs ls hI hm hP hD hS hl
      obtain ⟨R5, h, rec5⟩ : ∃ R5 : Int32 → Int32 → Prop, pX8_sift_5 K x2 t_sieve x3 x4 R5 ∧ ∀ (x3 : Int32) (x4 : Int32) (H : Heap) (locs : List Loc) (ls : Array Slot), R5 x3 x4 → va_P G vwCl (w_X8_sift Y h_t B_t t_sieve) H → va_D A (w_X8_sift Y h_t B_t t_sieve) → va_S A s.heap H locs → lv_has ls 7 [(0, .ref h_t), (2, .int x2), (3, .int x3), (4, .int x4)] → W p l e R s m args below meth c H locs 0 0 Q (F0 m 5 ls []) := ⟨_, hB5 x3 x4 hI, fun x3 x4 H locs ls hh hP hD hS hl => ih x3 x4 H locs ls hh.1 (Nat.lt_of_lt_of_le hh.2 (Nat.le_of_lt_succ hm)) hP hD hS hl⟩
      refine lv_iload hx hb dX8_sift_5 (lv_at hl 3 rfl) ?_
      refine lv_iload_n hx hb dX8_sift_7 rfl (lv_at hl 1 rfl) ?_
      obtain ⟨ht, hf⟩ := h
      refine lv_icmp_ge (tgt := 79) hx hb dX8_sift_8 (by decide) (fun c9 => ?_) (fun c9 => ?_)
      · have h := ht c9
        exact hret t_sieve H locs ls _ hP hD hS h dX8_sift_79
      · have h := hf c9
        refine lv_iload_n hx hb dX8_sift_11 rfl (lv_at hl 2 rfl) ?_
        refine lv_iload hx hb dX8_sift_12 (lv_at hl 3 rfl) ?_
        refine mc_iS ⟨hx, hb, hml, hown, hts⟩ hK hE hA hP hD hS (c_X5_image l G Y tF H.size x3 x4 h) (va_cwS 2 hts gX8_sift_X5_image rfl rfl rfl (by decide +kernel) ⟨Nat.le_trans (by decide) hRf, Nat.le_trans (by decide) hRl⟩) (fun u => (w_X8_sift Y h_t B_t t_sieve)) [] [0, 1] [0, 1] rfl rfl rfl rfl (by decide) (fun _ => rfl) rfl rfl hl.1 rfl (Nat.le_of_ble_eq_true rfl) dX8_sift_14 (fun r14 u H locs h hP hD hS => ?_)
        try dsimp only at h
        have hP : va_P G vwCl (w_X8_sift Y h_t B_t t_sieve) H := hP
        have hD : va_D A (w_X8_sift Y h_t B_t t_sieve) := hD
        refine lv_istore (lv' := [(5, .int r14), (0, .ref h_t), (2, .int x2), (3, .int x3), (4, .int x4)]) hx hb dX8_sift_17 hl (by decide) rfl (fun ls hl => ?_)
        refine lv_iload hx hb dX8_sift_19 (lv_at hl 0 rfl) ?_
        refine lv_iload hx hb dX8_sift_21 (lv_at hl 4 rfl) ?_
        obtain ⟨ht, hf⟩ := h
        refine lv_icmp_eq (tgt := 73) hx hb dX8_sift_23 (by decide) (fun c9 => ?_) (fun c9 => ?_)
        · have h := ht c9
          refine lv_iinc (v := (x4 + 1)) (lv' := [(4, .int (x4 + 1)), (5, .int r14), (0, .ref h_t), (2, .int x2), (3, .int x3)]) hx hb dX8_sift_73 hl (k := 4) rfl rfl (by decide) rfl (fun ls hl => ?_)
          refine lv_goto (tgt := 5) hx hb dX8_sift_76 (by decide) ?_
          exact rec5 x3 (x4 + 1) H locs ls h hP hD hS (lv_sub hl [2, 3, 4, 0] rfl)
        · have h := hf c9
          refine lv_iload hx hb dX8_sift_26 (lv_at hl 4 rfl) ?_
          refine lv_bipush (v := 8) hx hb dX8_sift_28 (by decide) ?_
          refine lv_imul hx hb dX8_sift_30 ?_
          refine lv_iload hx hb dX8_sift_31 (lv_at hl 0 rfl) ?_
          refine lv_iadd hx hb dX8_sift_33 ?_
          refine lv_istore (lv' := [(6, .int ((x4 * (8 : Int32)) + r14)), (5, .int r14), (0, .ref h_t), (2, .int x2), (3, .int x3), (4, .int x4)]) hx hb dX8_sift_34 hl (by decide) rfl (fun ls hl => ?_)
          refine lv_aload_n hx hb dX8_sift_36 rfl (lv_at hl 2 rfl) ?_
          refine va_get (D := G) (ci := 7) (v := .ref (B_t 0)) (C := RX8) (T := TX8) (N := 3) hx hb hts inX8 hown hK hP 0 rfl rfl 0 (by decide) hf9 (fun _ h9 => h9) rfl dX8_sift_37 ?_
          refine lv_iload hx hb dX8_sift_40 (lv_at hl 0 rfl) ?_
          obtain ⟨hin, h⟩ := h
          refine va_iald hx hb hK hP 1 0 rfl rfl hin dX8_sift_42 ?_
          refine lv_iconst (v := -1) hx hb dX8_sift_43 (by decide) ?_
          obtain ⟨ht, hf⟩ := h
          refine lv_icmp_ne (tgt := 56) hx hb dX8_sift_44 (by decide) (fun c9 => ?_) (fun c9 => ?_)
          · have h := ht c9
            refine lv_aload_n hx hb dX8_sift_56 rfl (lv_at hl 2 rfl) ?_
            refine va_get (D := G) (ci := 7) (v := .ref (B_t 0)) (C := RX8) (T := TX8) (N := 3) hx hb hts inX8 hown hK hP 0 rfl rfl 0 (by decide) hf9 (fun _ h9 => h9) rfl dX8_sift_57 ?_
            refine lv_iload hx hb dX8_sift_60 (lv_at hl 0 rfl) ?_
            obtain ⟨hin, h⟩ := h
            refine va_iald hx hb hK hP 1 0 rfl rfl hin dX8_sift_62 ?_
            refine lv_iload_n hx hb dX8_sift_63 rfl (lv_at hl 3 rfl) ?_
            refine mc_iS ⟨hx, hb, hml, hown, hts⟩ hK hE hA hP hD hS (c_X5_contrary l G Y tF H.size (t_sieve (Int32.toNatClampNeg ((x4 * (8 : Int32)) + r14))) x2 h) (va_cwS 2 hts gX8_sift_X5_contrary rfl rfl rfl (by decide +kernel) ⟨Nat.le_trans (by decide) hRf, Nat.le_trans (by decide) hRl⟩) (fun u => (w_X8_sift Y h_t B_t t_sieve)) [] [0, 1] [0, 1] rfl rfl rfl rfl (by decide) (fun _ => rfl) rfl rfl hl.1 rfl (Nat.le_of_ble_eq_true rfl) dX8_sift_64 (fun r64 u H locs h hP hD hS => ?_)
            try dsimp only at h
            have hP : va_P G vwCl (w_X8_sift Y h_t B_t t_sieve) H := hP
            have hD : va_D A (w_X8_sift Y h_t B_t t_sieve) := hD
            refine lv_iload_n hx hb dX8_sift_67 rfl (lv_at hl 4 rfl) ?_
            refine lv_iload_n hx hb dX8_sift_68 rfl (lv_at hl 3 rfl) ?_
            refine mc_iS ⟨hx, hb, hml, hown, hts⟩ hK hE hA hP hD hS (c_X5_after l G Y tF H.size r64 x3 x2 h) (va_cwS 3 hts gX8_sift_X5_after rfl rfl rfl (by decide +kernel) ⟨Nat.le_trans (by decide) hRf, Nat.le_trans (by decide) hRl⟩) (fun u => (w_X8_sift Y h_t B_t t_sieve)) [] [0, 1] [0, 1] rfl rfl rfl rfl (by decide) (fun _ => rfl) rfl rfl hl.1 rfl (Nat.le_of_ble_eq_true rfl) dX8_sift_69 (fun r69 u H locs h hP hD hS => ?_)
            try dsimp only at h
            have hP : va_P G vwCl (w_X8_sift Y h_t B_t t_sieve) H := hP
            have hD : va_D A (w_X8_sift Y h_t B_t t_sieve) := hD
            refine lv_istore_n (lv' := [(3, .int r69), (6, .int ((x4 * (8 : Int32)) + r14)), (5, .int r14), (0, .ref h_t), (2, .int x2), (4, .int x4)]) hx hb dX8_sift_72 rfl hl (by decide) rfl (fun ls hl => ?_)
            refine lv_iinc (v := (x4 + 1)) (lv' := [(4, .int (x4 + 1)), (3, .int r69), (6, .int ((x4 * (8 : Int32)) + r14)), (5, .int r14), (0, .ref h_t), (2, .int x2)]) hx hb dX8_sift_73 hl (k := 5) rfl rfl (by decide) rfl (fun ls hl => ?_)
            refine lv_goto (tgt := 5) hx hb dX8_sift_76 (by decide) ?_
            exact rec5 r69 (x4 + 1) H locs ls h hP hD hS (lv_sub hl [4, 5, 1, 0] rfl)
          · have h := hf c9
            refine lv_aload_n hx hb dX8_sift_47 rfl (lv_at hl 2 rfl) ?_
            refine va_get (D := G) (ci := 7) (v := .ref (B_t 0)) (C := RX8) (T := TX8) (N := 3) hx hb hts inX8 hown hK hP 0 rfl rfl 0 (by decide) hf9 (fun _ h9 => h9) rfl dX8_sift_48 ?_
            refine lv_iload hx hb dX8_sift_51 (lv_at hl 0 rfl) ?_
            refine lv_iload_n hx hb dX8_sift_53 rfl (lv_at hl 4 rfl) ?_
            obtain ⟨hin, h⟩ := h
            refine va_iast hx hb hK hP hD hS 1 0 rfl rfl hin dX8_sift_54 (fun H locs hP hD hS => ?_)
            have hP : va_P G vwCl (w_X8_sift Y h_t B_t (upd t_sieve (Int32.toNatClampNeg ((x4 * (8 : Int32)) + r14)) x3)) H := hP
            have hD : va_D A (w_X8_sift Y h_t B_t (upd t_sieve (Int32.toNatClampNeg ((x4 * (8 : Int32)) + r14)) x3)) := hD
            exact hret (upd t_sieve (Int32.toNatClampNeg ((x4 * (8 : Int32)) + r14)) x3) H locs ls _ hP hD hS h dX8_sift_55
  exact L5 x2 t_sieve I5 m5 hB5 _ x1 (0 : Int32) H locs ls hI5 (Nat.lt_succ_self _) hP hD hS (lv_sub hl [2, 4, 1, 0] rfl)

set_option maxHeartbeats 4000000 in
set_option maxRecDepth 100000 in
theorem c_X8_sift (l : Launch) (G : va_G) (Y : Nat → ClassId) (tF sz : Nat) (h_t : Nat) (B_t : Nat → Nat) (t_sieve : Nat → Int32) (x1 : Int32) (x2 : Int32) {K : (Nat → Int32) → Prop} (h : pX8_sift t_sieve x1 x2 K) : Met l yX8_sift wsX8_sift ({ frames := 2, cells := 0, slots := 0, locals := 46 }) (PcM G Y tF sz (w_X8_sift Y h_t B_t t_sieve) [.ref h_t, .int x1, .int x2]) (va_Qv (fun u : (Nat → Int32) => K u) (fun u t => BM G Y (va_A (w_X8_sift Y h_t B_t t_sieve) sz) (w_X8_sift Y h_t B_t u) t) (va_A (w_X8_sift Y h_t B_t t_sieve) sz)) 0 0 (va_A (w_X8_sift Y h_t B_t t_sieve) sz) := by
  refine Met.ofW (cc := cX8_sift) (maxL := 7) (ret := none) (by decide +kernel) rfl ?_
  intro p e s m args below meth c s₁ B hml hv
  obtain ⟨rfl, hsz, hP, hK, hD0, hE⟩ := hv
  have hts := atoms_spec (ws := wsX8_sift) B.pre
  have hown : s.vm.findClass RX8 = some m.cls := findClass_of_methodNamed B.named
  have hlocks := B.notSynchronized
  subst hsz
  have hD := hD0.self (sz := s.heap.size)
  exact wk_X8_sift h_t B_t t_sieve x1 x2 B.exec B.bytes hml hown hts hK hE (fun q h => Or.inr h) (Nat.le_refl _) (Nat.le_refl _) (fun t_sieve H locs ls pc hP hD hS hk hd => W.vret B.exec B.bytes B.returns (fun t ht hW => ⟨⟨t_sieve, rfl, hk, by rw [ht]; exact hP, va_K.moved hW.alike hK, hD⟩, hS.F ht⟩) hS.2.2 hd) hP hD h

abbrev w_X8_reachFrom (Y : Nat → ClassId) (h_t : Nat) (B_t : Nat → Nat) (t_carriers : Nat → Int32) (t_reached : Nat → Int32) (t_sieve : Nat → Int32) : va_W := [(h_t, .inr (7, [.ref (B_t 0), .ref (B_t 1), .ref (B_t 2)])), ((B_t 1), .inl (Y 0, 8, .inl t_carriers)), ((B_t 2), .inl (Y 0, 8, .inl t_reached)), ((B_t 0), .inl (Y 0, 64, .inl t_sieve))]

set_option maxHeartbeats 4000000 in
set_option maxRecDepth 100000 in
theorem wk_X8_reachFrom {p : Program} {l : Launch} {e : Env} {R : Room} {s : State} {m : MethodId} {args : Array Value} {below : List Frame} {meth : Method} {c : Code} {Q : State → Prop} {G : va_G} {Y : Nat → ClassId} {tF : Nat} {A : Nat → Prop} (h_t : Nat) (B_t : Nat → Nat) (t_carriers : Nat → Int32) (t_reached : Nat → Int32) (t_sieve : Nat → Int32) (x1 : Int32) (x2 : Int32) {K : Int32 → (Nat → Int32) → (Nat → Int32) → Prop} (hx : p.tables.exec = Jvm.exec) (hb : c.code = cX8_reachFrom) (hml : c.maxLocals = 8) (hown : s.vm.findClass RX8 = some m.cls) (hts : ∀ w ∈ wsX8_reachFrom, w.before args s = true) (hK : va_K G vwCl (tyL Y) s) (hE : Ev A tF s) (hA : ∀ q, s.heap.size ≤ q → A q) (hRf : 3 ≤ R.frames) (hRl : 70 ≤ R.locals) (hret : ∀ (r : Int32) (t_carriers : Nat → Int32) (t_reached : Nat → Int32) (H : Heap) (locs : List Loc) (ls : Array Slot) (pc : Nat), va_P G vwCl (w_X8_reachFrom Y h_t B_t t_carriers t_reached t_sieve) H → va_D A (w_X8_reachFrom Y h_t B_t t_carriers t_reached t_sieve) → va_S A s.heap H locs → K r t_carriers t_reached → decode cX8_reachFrom pc = .ok (.ireturn, 1) → W p l e R s m args below meth c H locs 0 0 Q (F0 m pc ls [.int r])) (hP : va_P G vwCl (w_X8_reachFrom Y h_t B_t t_carriers t_reached t_sieve) s.heap) (hD : va_D A (w_X8_reachFrom Y h_t B_t t_carriers t_reached t_sieve)) (h : pX8_reachFrom t_carriers t_reached t_sieve x1 x2 K) : W p l e R s m args below meth c s.heap [] 0 0 Q (entryFrame m ([.ref h_t, .int x1, .int x2] : List Value).toArray 8) := by
  have inX8 : ∀ w ∈ u_ws RX8 TX8 3, w ∈ wsX8_reachFrom := by decide +kernel
  have hf15 := hts (.fieldLink RX8 15 "RackBench$TurnGroup" "carriers" "[I") (by decide +kernel)
  have hf18 := hts (.fieldLink RX8 18 "RackBench$TurnGroup" "reached" "[I") (by decide +kernel)
  have hf9 := hts (.fieldLink RX8 9 "RackBench$TurnGroup" "sieve" "[I") (by decide +kernel)
  have hl := lv_entry ([.ref h_t, .int x1, .int x2]) (n := 8) (Nat.le_of_ble_eq_true rfl)
  rw [lg_entry_eq]
  generalize (lg_sl ([.ref h_t, .int x1, .int x2]) ++ List.replicate (8 - (lg_sl ([.ref h_t, .int x1, .int x2])).length) Slot.unset).toArray = ls at hl ⊢
  have hl : lv_has ls 8 [(0, .ref h_t), (1, .int x1), (2, .int x2)] := hl
  generalize hH0 : s.heap = H at hP ⊢
  have hS : va_S A s.heap H [] := by rw [← hH0]; exact va_S.rf
  clear hH0
  generalize ([] : List Loc) = locs at hS ⊢
  refine lv_aload_n hx hb dX8_reachFrom_0 rfl (lv_at hl 0 rfl) ?_
  refine va_get (D := G) (ci := 7) (v := .ref (B_t 1)) (C := RX8) (T := TX8) (N := 3) hx hb hts inX8 hown hK hP 0 rfl rfl 1 (by decide) hf15 (fun _ h9 => h9) rfl dX8_reachFrom_1 ?_
  refine lv_iconst (v := -1) hx hb dX8_reachFrom_4 (by decide) ?_
  refine mc_vS ⟨hx, hb, hml, hown, hts⟩ hK hE hA hP hD hS (c_J7_fill_53178 l G Y tF H.size (B_t 1) 8 t_carriers (-1 : Int32) h) (va_cwS 2 hts gX8_reachFrom_J7_fill_53178 rfl rfl rfl (by decide +kernel) ⟨Nat.le_trans (by decide) hRf, Nat.le_trans (by decide) hRl⟩) (fun u => (w_X8_reachFrom Y h_t B_t u t_reached t_sieve)) [1] [0, 2, 3] [0, 3, 1, 2] rfl rfl rfl rfl (by decide) (fun _ => rfl) rfl rfl hl.1 rfl (Nat.le_of_ble_eq_true rfl) dX8_reachFrom_5 (fun u H locs h hP hD hS => ?_)
  obtain ⟨t_carriers_5, rfl⟩ : ∃ z, z = u := ⟨_, rfl⟩
  try dsimp only at h
  have hP : va_P G vwCl (w_X8_reachFrom Y h_t B_t t_carriers_5 t_reached t_sieve) H := hP
  have hD : va_D A (w_X8_reachFrom Y h_t B_t t_carriers_5 t_reached t_sieve) := hD
  refine lv_aload_n hx hb dX8_reachFrom_8 rfl (lv_at hl 0 rfl) ?_
  refine va_get (D := G) (ci := 7) (v := .ref (B_t 1)) (C := RX8) (T := TX8) (N := 3) hx hb hts inX8 hown hK hP 0 rfl rfl 1 (by decide) hf15 (fun _ h9 => h9) rfl dX8_reachFrom_9 ?_
  refine lv_iload_n hx hb dX8_reachFrom_12 rfl (lv_at hl 1 rfl) ?_
  refine lv_iload_n hx hb dX8_reachFrom_13 rfl (lv_at hl 2 rfl) ?_
  refine mc_iS ⟨hx, hb, hml, hown, hts⟩ hK hE hA hP hD hS (c_X5_identity l G Y tF H.size x2 h) (va_cwS 1 hts gX8_reachFrom_X5_identity rfl rfl rfl (by decide +kernel) ⟨Nat.le_trans (by decide) hRf, Nat.le_trans (by decide) hRl⟩) (fun u => (w_X8_reachFrom Y h_t B_t t_carriers_5 t_reached t_sieve)) [] [0, 1, 2, 3] [0, 1, 2, 3] rfl rfl rfl rfl (by decide) (fun _ => rfl) rfl rfl hl.1 rfl (Nat.le_of_ble_eq_true rfl) dX8_reachFrom_14 (fun r14 u H locs h hP hD hS => ?_)
  try dsimp only at h
  have hP : va_P G vwCl (w_X8_reachFrom Y h_t B_t t_carriers_5 t_reached t_sieve) H := hP
  have hD : va_D A (w_X8_reachFrom Y h_t B_t t_carriers_5 t_reached t_sieve) := hD
  obtain ⟨hin, h⟩ := h
  refine va_iast hx hb hK hP hD hS 1 0 rfl rfl hin dX8_reachFrom_17 (fun H locs hP hD hS => ?_)
  have hP : va_P G vwCl (w_X8_reachFrom Y h_t B_t (upd t_carriers_5 (Int32.toNatClampNeg x1) r14) t_reached t_sieve) H := hP
  have hD : va_D A (w_X8_reachFrom Y h_t B_t (upd t_carriers_5 (Int32.toNatClampNeg x1) r14) t_reached t_sieve) := hD
  refine lv_aload_n hx hb dX8_reachFrom_18 rfl (lv_at hl 0 rfl) ?_
  refine va_get (D := G) (ci := 7) (v := .ref (B_t 2)) (C := RX8) (T := TX8) (N := 3) hx hb hts inX8 hown hK hP 0 rfl rfl 2 (by decide) hf18 (fun _ h9 => h9) rfl dX8_reachFrom_19 ?_
  refine lv_iconst (v := 0) hx hb dX8_reachFrom_22 (by decide) ?_
  refine lv_iload_n hx hb dX8_reachFrom_23 rfl (lv_at hl 1 rfl) ?_
  obtain ⟨hin, h⟩ := h
  refine va_iast hx hb hK hP hD hS 2 0 rfl rfl hin dX8_reachFrom_24 (fun H locs hP hD hS => ?_)
  have hP : va_P G vwCl (w_X8_reachFrom Y h_t B_t (upd t_carriers_5 (Int32.toNatClampNeg x1) r14) (upd t_reached (Int32.toNatClampNeg (0 : Int32)) x1) t_sieve) H := hP
  have hD : va_D A (w_X8_reachFrom Y h_t B_t (upd t_carriers_5 (Int32.toNatClampNeg x1) r14) (upd t_reached (Int32.toNatClampNeg (0 : Int32)) x1) t_sieve) := hD
  refine lv_iconst (v := 1) hx hb dX8_reachFrom_25 (by decide) ?_
  refine lv_istore_n (lv' := [(3, .int (1 : Int32)), (0, .ref h_t), (1, .int x1), (2, .int x2)]) hx hb dX8_reachFrom_26 rfl hl (by decide) rfl (fun ls hl => ?_)
  refine lv_iconst (v := 0) hx hb dX8_reachFrom_27 (by decide) ?_
  refine lv_istore (lv' := [(4, .int (0 : Int32)), (3, .int (1 : Int32)), (0, .ref h_t), (1, .int x1), (2, .int x2)]) hx hb dX8_reachFrom_28 hl (by decide) rfl (fun ls hl => ?_)
  obtain ⟨I30, m30, hI30, hB30⟩ := h
  have L30 : ∀ (x1 : Int32) (x2 : Int32) (I30 : Int32 → Int32 → (Nat → Int32) → (Nat → Int32) → Prop) (m30 : Int32 → Int32 → (Nat → Int32) → (Nat → Int32) → Nat), (∀ (x3 : Int32) (x4 : Int32) (t_carriers : Nat → Int32) (t_reached : Nat → Int32), I30 x3 x4 t_carriers t_reached → pX8_reachFrom_30 t_sieve K x1 x2 x3 x4 t_carriers t_reached (fun x3' x4' t_carriers' t_reached' => I30 x3' x4' t_carriers' t_reached' ∧ m30 x3' x4' t_carriers' t_reached' < m30 x3 x4 t_carriers t_reached)) → ∀ (n : Nat) (x3 : Int32) (x4 : Int32) (t_carriers : Nat → Int32) (t_reached : Nat → Int32) (H : Heap) (locs : List Loc) (ls : Array Slot), I30 x3 x4 t_carriers t_reached → m30 x3 x4 t_carriers t_reached < n → va_P G vwCl (w_X8_reachFrom Y h_t B_t t_carriers t_reached t_sieve) H → va_D A (w_X8_reachFrom Y h_t B_t t_carriers t_reached t_sieve) → va_S A s.heap H locs → lv_has ls 8 [(0, .ref h_t), (1, .int x1), (2, .int x2), (3, .int x3), (4, .int x4)] → W p l e R s m args below meth c H locs 0 0 Q (F0 m 30 ls []) := by
    intro x1 x2 I30 m30 hB30 n
    induction n with
    | zero => intro x3 x4 t_carriers t_reached H locs ls _ hm; exact absurd hm (Nat.not_lt_zero _)
    | succ n ih =>
      intro x3 x4 t_carriers t_reached H locs ls hI hm hP hD hS hl
      obtain ⟨R30, h, rec30⟩ : ∃ R30 : Int32 → Int32 → (Nat → Int32) → (Nat → Int32) → Prop, pX8_reachFrom_30 t_sieve K x1 x2 x3 x4 t_carriers t_reached R30 ∧ ∀ (x3 : Int32) (x4 : Int32) (t_carriers : Nat → Int32) (t_reached : Nat → Int32) (H : Heap) (locs : List Loc) (ls : Array Slot), R30 x3 x4 t_carriers t_reached → va_P G vwCl (w_X8_reachFrom Y h_t B_t t_carriers t_reached t_sieve) H → va_D A (w_X8_reachFrom Y h_t B_t t_carriers t_reached t_sieve) → va_S A s.heap H locs → lv_has ls 8 [(0, .ref h_t), (1, .int x1), (2, .int x2), (3, .int x3), (4, .int x4)] → W p l e R s m args below meth c H locs 0 0 Q (F0 m 30 ls []) := ⟨_, hB30 x3 x4 t_carriers t_reached hI, fun x3 x4 t_carriers t_reached H locs ls hh hP hD hS hl => ih x3 x4 t_carriers t_reached H locs ls hh.1 (Nat.lt_of_lt_of_le hh.2 (Nat.le_of_lt_succ hm)) hP hD hS hl⟩
      refine lv_iload hx hb dX8_reachFrom_30 (lv_at hl 4 rfl) ?_
      refine lv_iload_n hx hb dX8_reachFrom_32 rfl (lv_at hl 3 rfl) ?_
      obtain ⟨ht, hf⟩ := h
      refine lv_icmp_ge (tgt := 158) hx hb dX8_reachFrom_33 (by decide) (fun c9 => ?_) (fun c9 => ?_)
      · have h := ht c9
        refine lv_iload_n hx hb dX8_reachFrom_158 rfl (lv_at hl 3 rfl) ?_
        exact hret x3 t_carriers t_reached H locs ls _ hP hD hS h dX8_reachFrom_159
      · have h := hf c9
        refine lv_iload hx hb dX8_reachFrom_36 (lv_at hl 4 rfl) ?_
        refine lv_iload_n hx hb dX8_reachFrom_38 rfl (lv_at hl 2 rfl) ?_
        obtain ⟨ht, hf⟩ := h
        refine lv_icmp_ge (tgt := 158) hx hb dX8_reachFrom_39 (by decide) (fun c9 => ?_) (fun c9 => ?_)
        · have h := ht c9
          refine lv_iload_n hx hb dX8_reachFrom_158 rfl (lv_at hl 3 rfl) ?_
          exact hret x3 t_carriers t_reached H locs ls _ hP hD hS h dX8_reachFrom_159
        · have h := hf c9
          refine lv_aload_n hx hb dX8_reachFrom_42 rfl (lv_at hl 0 rfl) ?_
          refine va_get (D := G) (ci := 7) (v := .ref (B_t 2)) (C := RX8) (T := TX8) (N := 3) hx hb hts inX8 hown hK hP 0 rfl rfl 2 (by decide) hf18 (fun _ h9 => h9) rfl dX8_reachFrom_43 ?_
          refine lv_iload hx hb dX8_reachFrom_46 (lv_at hl 4 rfl) ?_
          obtain ⟨hin, h⟩ := h
          refine va_iald hx hb hK hP 2 0 rfl rfl hin dX8_reachFrom_48 ?_
          refine lv_istore (lv' := [(5, .int (t_reached (Int32.toNatClampNeg x4))), (0, .ref h_t), (1, .int x1), (2, .int x2), (3, .int x3), (4, .int x4)]) hx hb dX8_reachFrom_49 hl (by decide) rfl (fun ls hl => ?_)
          refine lv_iload_n hx hb dX8_reachFrom_51 rfl (lv_at hl 2 rfl) ?_
          refine lv_bipush (v := 8) hx hb dX8_reachFrom_52 (by decide) ?_
          refine lv_imul hx hb dX8_reachFrom_54 ?_
          refine lv_istore (lv' := [(6, .int (x1 * (8 : Int32))), (5, .int (t_reached (Int32.toNatClampNeg x4))), (0, .ref h_t), (1, .int x1), (2, .int x2), (3, .int x3), (4, .int x4)]) hx hb dX8_reachFrom_55 hl (by decide) rfl (fun ls hl => ?_)
          obtain ⟨I57, m57, hI57, hB57⟩ := h
          have L57 : ∀ (x4 : Int32) (x5 : Int32) (I57 : Int32 → Int32 → (Nat → Int32) → (Nat → Int32) → Prop) (m57 : Int32 → Int32 → (Nat → Int32) → (Nat → Int32) → Nat), (∀ (x3 : Int32) (x6 : Int32) (t_carriers : Nat → Int32) (t_reached : Nat → Int32), I57 x3 x6 t_carriers t_reached → pX8_reachFrom_57 t_sieve R30 K x1 x2 x4 x5 x3 x6 t_carriers t_reached (fun x3' x6' t_carriers' t_reached' => I57 x3' x6' t_carriers' t_reached' ∧ m57 x3' x6' t_carriers' t_reached' < m57 x3 x6 t_carriers t_reached)) → ∀ (n : Nat) (x3 : Int32) (x6 : Int32) (t_carriers : Nat → Int32) (t_reached : Nat → Int32) (H : Heap) (locs : List Loc) (ls : Array Slot), I57 x3 x6 t_carriers t_reached → m57 x3 x6 t_carriers t_reached < n → va_P G vwCl (w_X8_reachFrom Y h_t B_t t_carriers t_reached t_sieve) H → va_D A (w_X8_reachFrom Y h_t B_t t_carriers t_reached t_sieve) → va_S A s.heap H locs → lv_has ls 8 [(0, .ref h_t), (1, .int x1), (2, .int x2), (3, .int x3), (4, .int x4), (5, .int x5), (6, .int x6)] → W p l e R s m args below meth c H locs 0 0 Q (F0 m 57 ls []) := by
            intro x4 x5 I57 m57 hB57 n
            induction n with
            | zero => intro x3 x6 t_carriers t_reached H locs ls _ hm; exact absurd hm (Nat.not_lt_zero _)
            | succ n ih =>
              intro x3 x6 t_carriers t_reached H locs ls hI hm hP hD hS hl
              obtain ⟨R57, h, rec57⟩ : ∃ R57 : Int32 → Int32 → (Nat → Int32) → (Nat → Int32) → Prop, pX8_reachFrom_57 t_sieve R30 K x1 x2 x4 x5 x3 x6 t_carriers t_reached R57 ∧ ∀ (x3 : Int32) (x6 : Int32) (t_carriers : Nat → Int32) (t_reached : Nat → Int32) (H : Heap) (locs : List Loc) (ls : Array Slot), R57 x3 x6 t_carriers t_reached → va_P G vwCl (w_X8_reachFrom Y h_t B_t t_carriers t_reached t_sieve) H → va_D A (w_X8_reachFrom Y h_t B_t t_carriers t_reached t_sieve) → va_S A s.heap H locs → lv_has ls 8 [(0, .ref h_t), (1, .int x1), (2, .int x2), (3, .int x3), (4, .int x4), (5, .int x5), (6, .int x6)] → W p l e R s m args below meth c H locs 0 0 Q (F0 m 57 ls []) := ⟨_, hB57 x3 x6 t_carriers t_reached hI, fun x3 x6 t_carriers t_reached H locs ls hh hP hD hS hl => ih x3 x6 t_carriers t_reached H locs ls hh.1 (Nat.lt_of_lt_of_le hh.2 (Nat.le_of_lt_succ hm)) hP hD hS hl⟩
              have J92 : ∀ (x3 : Int32) (x6 : Int32) (s0 : Int32) (t_carriers : Nat → Int32) (t_reached : Nat → Int32) (H : Heap) (locs : List Loc) (ls : Array Slot), pX8_reachFrom_92 t_sieve R30 R57 K x1 x2 x4 x5 x3 x6 s0 t_carriers t_reached → va_P G vwCl (w_X8_reachFrom Y h_t B_t t_carriers t_reached t_sieve) H → va_D A (w_X8_reachFrom Y h_t B_t t_carriers t_reached t_sieve) → va_S A s.heap H locs → lv_has ls 8 [(0, .ref h_t), (1, .int x1), (2, .int x2), (3, .int x3), (4, .int x4), (5, .int x5), (6, .int x6)] → W p l e R s m args below meth c H locs 0 0 Q (F0 m 92 ls [.int s0]) := by
                intro x3 x6 s0 t_carriers t_reached H locs ls h hP hD hS hl
                refine lv_istore (lv' := [(7, .int s0), (0, .ref h_t), (1, .int x1), (2, .int x2), (3, .int x3), (4, .int x4), (5, .int x5), (6, .int x6)]) hx hb dX8_reachFrom_92 hl (by decide) rfl (fun ls hl => ?_)
                refine lv_aload_n hx hb dX8_reachFrom_94 rfl (lv_at hl 1 rfl) ?_
                refine va_get (D := G) (ci := 7) (v := .ref (B_t 1)) (C := RX8) (T := TX8) (N := 3) hx hb hts inX8 hown hK hP 0 rfl rfl 1 (by decide) hf15 (fun _ h9 => h9) rfl dX8_reachFrom_95 ?_
                refine lv_iload hx hb dX8_reachFrom_98 (lv_at hl 0 rfl) ?_
                obtain ⟨hin, h⟩ := h
                refine va_iald hx hb hK hP 1 0 rfl rfl hin dX8_reachFrom_100 ?_
                refine lv_iconst (v := -1) hx hb dX8_reachFrom_101 (by decide) ?_
                obtain ⟨ht, hf⟩ := h
                refine lv_icmp_ne (tgt := 146) hx hb dX8_reachFrom_102 (by decide) (fun c9 => ?_) (fun c9 => ?_)
                · have h := ht c9
                  refine lv_iinc (v := (x6 + 1)) (lv' := [(6, .int (x6 + 1)), (7, .int s0), (0, .ref h_t), (1, .int x1), (2, .int x2), (3, .int x3), (4, .int x4), (5, .int x5)]) hx hb dX8_reachFrom_146 hl (k := 7) rfl rfl (by decide) rfl (fun ls hl => ?_)
                  refine lv_goto (tgt := 57) hx hb dX8_reachFrom_149 (by decide) ?_
                  exact rec57 x3 (x6 + 1) t_carriers t_reached H locs ls h hP hD hS (lv_sub hl [2, 3, 4, 5, 6, 7, 0] rfl)
                · have h := hf c9
                  refine lv_iload_n hx hb dX8_reachFrom_105 rfl (lv_at hl 4 rfl) ?_
                  refine lv_iload_n hx hb dX8_reachFrom_106 rfl (lv_at hl 3 rfl) ?_
                  obtain ⟨ht, hf⟩ := h
                  refine lv_icmp_ge (tgt := 146) hx hb dX8_reachFrom_107 (by decide) (fun c9 => ?_) (fun c9 => ?_)
                  · have h := ht c9
                    refine lv_iinc (v := (x6 + 1)) (lv' := [(6, .int (x6 + 1)), (7, .int s0), (0, .ref h_t), (1, .int x1), (2, .int x2), (3, .int x3), (4, .int x4), (5, .int x5)]) hx hb dX8_reachFrom_146 hl (k := 7) rfl rfl (by decide) rfl (fun ls hl => ?_)
                    refine lv_goto (tgt := 57) hx hb dX8_reachFrom_149 (by decide) ?_
                    exact rec57 x3 (x6 + 1) t_carriers t_reached H locs ls h hP hD hS (lv_sub hl [2, 3, 4, 5, 6, 7, 0] rfl)
                  · have h := hf c9
                    refine lv_aload_n hx hb dX8_reachFrom_110 rfl (lv_at hl 1 rfl) ?_
                    refine va_get (D := G) (ci := 7) (v := .ref (B_t 1)) (C := RX8) (T := TX8) (N := 3) hx hb hts inX8 hown hK hP 0 rfl rfl 1 (by decide) hf15 (fun _ h9 => h9) rfl dX8_reachFrom_111 ?_
                    refine lv_iload hx hb dX8_reachFrom_114 (lv_at hl 0 rfl) ?_
                    refine lv_aload_n hx hb dX8_reachFrom_116 rfl (lv_at hl 1 rfl) ?_
                    refine va_get (D := G) (ci := 7) (v := .ref (B_t 0)) (C := RX8) (T := TX8) (N := 3) hx hb hts inX8 hown hK hP 0 rfl rfl 0 (by decide) hf9 (fun _ h9 => h9) rfl dX8_reachFrom_117 ?_
                    refine lv_iload hx hb dX8_reachFrom_120 (lv_at hl 7 rfl) ?_
                    obtain ⟨hin, h⟩ := h
                    refine va_iald hx hb hK hP 3 0 rfl rfl hin dX8_reachFrom_122 ?_
                    refine lv_aload_n hx hb dX8_reachFrom_123 rfl (lv_at hl 1 rfl) ?_
                    refine va_get (D := G) (ci := 7) (v := .ref (B_t 1)) (C := RX8) (T := TX8) (N := 3) hx hb hts inX8 hown hK hP 0 rfl rfl 1 (by decide) hf15 (fun _ h9 => h9) rfl dX8_reachFrom_124 ?_
                    refine lv_iload hx hb dX8_reachFrom_127 (lv_at hl 6 rfl) ?_
                    obtain ⟨hin, h⟩ := h
                    refine va_iald hx hb hK hP 1 0 rfl rfl hin dX8_reachFrom_129 ?_
                    refine lv_iload_n hx hb dX8_reachFrom_130 rfl (lv_at hl 3 rfl) ?_
                    refine mc_iS ⟨hx, hb, hml, hown, hts⟩ hK hE hA hP hD hS (c_X5_after l G Y tF H.size (t_sieve (Int32.toNatClampNeg x6)) (t_carriers (Int32.toNatClampNeg x5)) x2 h) (va_cwS 3 hts gX8_reachFrom_X5_after rfl rfl rfl (by decide +kernel) ⟨Nat.le_trans (by decide) hRf, Nat.le_trans (by decide) hRl⟩) (fun u => (w_X8_reachFrom Y h_t B_t t_carriers t_reached t_sieve)) [] [0, 1, 2, 3] [0, 1, 2, 3] rfl rfl rfl rfl (by decide) (fun _ => rfl) rfl rfl hl.1 rfl (Nat.le_of_ble_eq_true rfl) dX8_reachFrom_131 (fun r131 u H locs h hP hD hS => ?_)
                    try dsimp only at h
                    have hP : va_P G vwCl (w_X8_reachFrom Y h_t B_t t_carriers t_reached t_sieve) H := hP
                    have hD : va_D A (w_X8_reachFrom Y h_t B_t t_carriers t_reached t_sieve) := hD
                    obtain ⟨hin, h⟩ := h
                    refine va_iast hx hb hK hP hD hS 1 0 rfl rfl hin dX8_reachFrom_134 (fun H locs hP hD hS => ?_)
                    have hP : va_P G vwCl (w_X8_reachFrom Y h_t B_t (upd t_carriers (Int32.toNatClampNeg s0) r131) t_reached t_sieve) H := hP
                    have hD : va_D A (w_X8_reachFrom Y h_t B_t (upd t_carriers (Int32.toNatClampNeg s0) r131) t_reached t_sieve) := hD
                    refine lv_aload_n hx hb dX8_reachFrom_135 rfl (lv_at hl 1 rfl) ?_
                    refine va_get (D := G) (ci := 7) (v := .ref (B_t 2)) (C := RX8) (T := TX8) (N := 3) hx hb hts inX8 hown hK hP 0 rfl rfl 2 (by decide) hf18 (fun _ h9 => h9) rfl dX8_reachFrom_136 ?_
                    refine lv_iload_n hx hb dX8_reachFrom_139 rfl (lv_at hl 4 rfl) ?_
                    refine lv_iload hx hb dX8_reachFrom_140 (lv_at hl 0 rfl) ?_
                    obtain ⟨hin, h⟩ := h
                    refine va_iast hx hb hK hP hD hS 2 0 rfl rfl hin dX8_reachFrom_142 (fun H locs hP hD hS => ?_)
                    have hP : va_P G vwCl (w_X8_reachFrom Y h_t B_t (upd t_carriers (Int32.toNatClampNeg s0) r131) (upd t_reached (Int32.toNatClampNeg x3) s0) t_sieve) H := hP
                    have hD : va_D A (w_X8_reachFrom Y h_t B_t (upd t_carriers (Int32.toNatClampNeg s0) r131) (upd t_reached (Int32.toNatClampNeg x3) s0) t_sieve) := hD
                    refine lv_iinc (v := (x3 + 1)) (lv' := [(3, .int (x3 + 1)), (7, .int s0), (0, .ref h_t), (1, .int x1), (2, .int x2), (4, .int x4), (5, .int x5), (6, .int x6)]) hx hb dX8_reachFrom_143 hl (k := 4) rfl rfl (by decide) rfl (fun ls hl => ?_)
                    refine lv_iinc (v := (x6 + 1)) (lv' := [(6, .int (x6 + 1)), (3, .int (x3 + 1)), (7, .int s0), (0, .ref h_t), (1, .int x1), (2, .int x2), (4, .int x4), (5, .int x5)]) hx hb dX8_reachFrom_146 hl (k := 7) rfl rfl (by decide) rfl (fun ls hl => ?_)
                    refine lv_goto (tgt := 57) hx hb dX8_reachFrom_149 (by decide) ?_
                    exact rec57 (x3 + 1) (x6 + 1) (upd t_carriers (Int32.toNatClampNeg s0) r131) (upd t_reached (Int32.toNatClampNeg x3) s0) H locs ls h hP hD hS (lv_sub hl [3, 4, 5, 1, 6, 7, 0] rfl)
              refine lv_iload hx hb dX8_reachFrom_57 (lv_at hl 6 rfl) ?_
              refine lv_bipush (v := 64) hx hb dX8_reachFrom_59 (by decide) ?_
              obtain ⟨ht, hf⟩ := h
              refine lv_icmp_ge (tgt := 152) hx hb dX8_reachFrom_61 (by decide) (fun c9 => ?_) (fun c9 => ?_)
              · have h := ht c9
                refine lv_iinc (v := (x4 + 1)) (lv' := [(4, .int (x4 + 1)), (0, .ref h_t), (1, .int x1), (2, .int x2), (3, .int x3), (5, .int x5), (6, .int x6)]) hx hb dX8_reachFrom_152 hl (k := 4) rfl rfl (by decide) rfl (fun ls hl => ?_)
                refine lv_goto (tgt := 30) hx hb dX8_reachFrom_155 (by decide) ?_
                exact rec30 x3 (x4 + 1) t_carriers t_reached H locs ls h hP hD hS (lv_sub hl [1, 2, 3, 4, 0] rfl)
              · have h := hf c9
                refine lv_aload_n hx hb dX8_reachFrom_64 rfl (lv_at hl 0 rfl) ?_
                refine va_get (D := G) (ci := 7) (v := .ref (B_t 0)) (C := RX8) (T := TX8) (N := 3) hx hb hts inX8 hown hK hP 0 rfl rfl 0 (by decide) hf9 (fun _ h9 => h9) rfl dX8_reachFrom_65 ?_
                refine lv_iload hx hb dX8_reachFrom_68 (lv_at hl 6 rfl) ?_
                obtain ⟨hin, h⟩ := h
                refine va_iald hx hb hK hP 3 0 rfl rfl hin dX8_reachFrom_70 ?_
                refine lv_iconst (v := -1) hx hb dX8_reachFrom_71 (by decide) ?_
                obtain ⟨ht, hf⟩ := h
                refine lv_icmp_ne (tgt := 80) hx hb dX8_reachFrom_72 (by decide) (fun c9 => ?_) (fun c9 => ?_)
                · have h := ht c9
                  refine lv_aload_n hx hb dX8_reachFrom_80 rfl (lv_at hl 0 rfl) ?_
                  refine va_get (D := G) (ci := 7) (v := .ref (B_t 0)) (C := RX8) (T := TX8) (N := 3) hx hb hts inX8 hown hK hP 0 rfl rfl 0 (by decide) hf9 (fun _ h9 => h9) rfl dX8_reachFrom_81 ?_
                  refine lv_iload hx hb dX8_reachFrom_84 (lv_at hl 6 rfl) ?_
                  obtain ⟨hin, h⟩ := h
                  refine va_iald hx hb hK hP 3 0 rfl rfl hin dX8_reachFrom_86 ?_
                  refine lv_iload hx hb dX8_reachFrom_87 (lv_at hl 5 rfl) ?_
                  refine mc_iS ⟨hx, hb, hml, hown, hts⟩ hK hE hA hP hD hS (c_X5_image l G Y tF H.size (t_sieve (Int32.toNatClampNeg x6)) x5 h) (va_cwS 2 hts gX8_reachFrom_X5_image rfl rfl rfl (by decide +kernel) ⟨Nat.le_trans (by decide) hRf, Nat.le_trans (by decide) hRl⟩) (fun u => (w_X8_reachFrom Y h_t B_t t_carriers t_reached t_sieve)) [] [0, 1, 2, 3] [0, 1, 2, 3] rfl rfl rfl rfl (by decide) (fun _ => rfl) rfl rfl hl.1 rfl (Nat.le_of_ble_eq_true rfl) dX8_reachFrom_89 (fun r89 u H locs h hP hD hS => ?_)
                  try dsimp only at h
                  have hP : va_P G vwCl (w_X8_reachFrom Y h_t B_t t_carriers t_reached t_sieve) H := hP
                  have hD : va_D A (w_X8_reachFrom Y h_t B_t t_carriers t_reached t_sieve) := hD
                  exact J92 x3 x6 r89 t_carriers t_reached H locs ls h hP hD hS (lv_sub hl [0, 1, 2, 3, 4, 5, 6] rfl)
                · have h := hf c9
                  refine lv_iload hx hb dX8_reachFrom_75 (lv_at hl 5 rfl) ?_
                  refine lv_goto (tgt := 92) hx hb dX8_reachFrom_77 (by decide) ?_
                  exact J92 x3 x6 x5 t_carriers t_reached H locs ls h hP hD hS (lv_sub hl [0, 1, 2, 3, 4, 5, 6] rfl)
          exact L57 x4 (t_reached (Int32.toNatClampNeg x4)) I57 m57 hB57 _ x3 (x1 * (8 : Int32)) t_carriers t_reached H locs ls hI57 (Nat.lt_succ_self _) hP hD hS (lv_sub hl [2, 3, 4, 5, 6, 1, 0] rfl)
  exact L30 x1 x2 I30 m30 hB30 _ (1 : Int32) (0 : Int32) (upd t_carriers_5 (Int32.toNatClampNeg x1) r14) (upd t_reached (Int32.toNatClampNeg (0 : Int32)) x1) H locs ls hI30 (Nat.lt_succ_self _) hP hD hS (lv_sub hl [2, 3, 4, 1, 0] rfl)

set_option maxHeartbeats 4000000 in
set_option maxRecDepth 100000 in
theorem c_X8_reachFrom (l : Launch) (G : va_G) (Y : Nat → ClassId) (tF sz : Nat) (h_t : Nat) (B_t : Nat → Nat) (t_carriers : Nat → Int32) (t_reached : Nat → Int32) (t_sieve : Nat → Int32) (x1 : Int32) (x2 : Int32) {K : Int32 → (Nat → Int32) → (Nat → Int32) → Prop} (h : pX8_reachFrom t_carriers t_reached t_sieve x1 x2 K) : Met l yX8_reachFrom wsX8_reachFrom ({ frames := 3, cells := 0, slots := 0, locals := 70 }) (PcM G Y tF sz (w_X8_reachFrom Y h_t B_t t_carriers t_reached t_sieve) [.ref h_t, .int x1, .int x2]) (va_Qi (fun (r : Int32) (u : (Nat → Int32) × (Nat → Int32)) => K r u.1 u.2) (fun u t => BM G Y (va_A (w_X8_reachFrom Y h_t B_t t_carriers t_reached t_sieve) sz) (w_X8_reachFrom Y h_t B_t u.1 u.2 t_sieve) t) (va_A (w_X8_reachFrom Y h_t B_t t_carriers t_reached t_sieve) sz)) 0 0 (va_A (w_X8_reachFrom Y h_t B_t t_carriers t_reached t_sieve) sz) := by
  refine Met.ofW (cc := cX8_reachFrom) (maxL := 8) (ret := (some .int)) (by decide +kernel) rfl ?_
  intro p e s m args below meth c s₁ B hml hv
  obtain ⟨rfl, hsz, hP, hK, hD0, hE⟩ := hv
  have hts := atoms_spec (ws := wsX8_reachFrom) B.pre
  have hown : s.vm.findClass RX8 = some m.cls := findClass_of_methodNamed B.named
  have hlocks := B.notSynchronized
  subst hsz
  have hD := hD0.self (sz := s.heap.size)
  exact wk_X8_reachFrom h_t B_t t_carriers t_reached t_sieve x1 x2 B.exec B.bytes hml hown hts hK hE (fun q h => Or.inr h) (Nat.le_refl _) (Nat.le_refl _) (fun r t_carriers t_reached H locs ls pc hP hD hS hk hd => W.iret (v := r) B.exec B.bytes B.returns (fun t ht hW => ⟨⟨r, (t_carriers, t_reached), rfl, hk, by rw [ht]; exact hP, va_K.moved hW.alike hK, hD⟩, hS.F ht⟩) hS.2.2 hd) hP hD h

abbrev w_X8_siftProducts (Y : Nat → ClassId) (h_t : Nat) (B_t : Nat → Nat) (t_carriers : Nat → Int32) (t_reached : Nat → Int32) (t_sieve : Nat → Int32) : va_W := [(h_t, .inr (7, [.ref (B_t 0), .ref (B_t 1), .ref (B_t 2)])), ((B_t 1), .inl (Y 0, 8, .inl t_carriers)), ((B_t 2), .inl (Y 0, 8, .inl t_reached)), ((B_t 0), .inl (Y 0, 64, .inl t_sieve))]

set_option maxHeartbeats 4000000 in
set_option maxRecDepth 100000 in
theorem wk_X8_siftProducts {p : Program} {l : Launch} {e : Env} {R : Room} {s : State} {m : MethodId} {args : Array Value} {below : List Frame} {meth : Method} {c : Code} {Q : State → Prop} {G : va_G} {Y : Nat → ClassId} {tF : Nat} {A : Nat → Prop} (h_t : Nat) (B_t : Nat → Nat) (t_carriers : Nat → Int32) (t_reached : Nat → Int32) (t_sieve : Nat → Int32) (x1 : Int32) (x2 : Int32) (x3 : Int32) {K : (Nat → Int32) → Prop} (hx : p.tables.exec = Jvm.exec) (hb : c.code = cX8_siftProducts) (hml : c.maxLocals = 9) (hown : s.vm.findClass RX8 = some m.cls) (hts : ∀ w ∈ wsX8_siftProducts, w.before args s = true) (hK : va_K G vwCl (tyL Y) s) (hE : Ev A tF s) (hA : ∀ q, s.heap.size ≤ q → A q) (hRf : 3 ≤ R.frames) (hRl : 72 ≤ R.locals) (hret : ∀ (t_sieve : Nat → Int32) (H : Heap) (locs : List Loc) (ls : Array Slot) (pc : Nat), va_P G vwCl (w_X8_siftProducts Y h_t B_t t_carriers t_reached t_sieve) H → va_D A (w_X8_siftProducts Y h_t B_t t_carriers t_reached t_sieve) → va_S A s.heap H locs → K t_sieve → decode cX8_siftProducts pc = .ok (.return_, 1) → W p l e R s m args below meth c H locs 0 0 Q (F0 m pc ls [])) (hP : va_P G vwCl (w_X8_siftProducts Y h_t B_t t_carriers t_reached t_sieve) s.heap) (hD : va_D A (w_X8_siftProducts Y h_t B_t t_carriers t_reached t_sieve)) (h : pX8_siftProducts t_carriers t_reached t_sieve x1 x2 x3 K) : W p l e R s m args below meth c s.heap [] 0 0 Q (entryFrame m ([.ref h_t, .int x1, .int x2, .int x3] : List Value).toArray 9) := by
  have inX8 : ∀ w ∈ u_ws RX8 TX8 3, w ∈ wsX8_siftProducts := by decide +kernel
  have hf15 := hts (.fieldLink RX8 15 "RackBench$TurnGroup" "carriers" "[I") (by decide +kernel)
  have hf18 := hts (.fieldLink RX8 18 "RackBench$TurnGroup" "reached" "[I") (by decide +kernel)
  have hf9 := hts (.fieldLink RX8 9 "RackBench$TurnGroup" "sieve" "[I") (by decide +kernel)
  have hl := lv_entry ([.ref h_t, .int x1, .int x2, .int x3]) (n := 9) (Nat.le_of_ble_eq_true rfl)
  rw [lg_entry_eq]
  generalize (lg_sl ([.ref h_t, .int x1, .int x2, .int x3]) ++ List.replicate (9 - (lg_sl ([.ref h_t, .int x1, .int x2, .int x3])).length) Slot.unset).toArray = ls at hl ⊢
  have hl : lv_has ls 9 [(0, .ref h_t), (1, .int x1), (2, .int x2), (3, .int x3)] := hl
  generalize hH0 : s.heap = H at hP ⊢
  have hS : va_S A s.heap H [] := by rw [← hH0]; exact va_S.rf
  clear hH0
  generalize ([] : List Loc) = locs at hS ⊢
  refine lv_iconst (v := 0) hx hb dX8_siftProducts_0 (by decide) ?_
  refine lv_istore (lv' := [(4, .int (0 : Int32)), (0, .ref h_t), (1, .int x1), (2, .int x2), (3, .int x3)]) hx hb dX8_siftProducts_1 hl (by decide) rfl (fun ls hl => ?_)
  obtain ⟨I3, m3, hI3, hB3⟩ := h
  have L3 : ∀ (x1 : Int32) (x2 : Int32) (x3 : Int32) (I3 : Int32 → (Nat → Int32) → Prop) (m3 : Int32 → (Nat → Int32) → Nat), (∀ (x4 : Int32) (t_sieve : Nat → Int32), I3 x4 t_sieve → pX8_siftProducts_3 t_carriers t_reached K x1 x2 x3 x4 t_sieve (fun x4' t_sieve' => I3 x4' t_sieve' ∧ m3 x4' t_sieve' < m3 x4 t_sieve)) → ∀ (n : Nat) (x4 : Int32) (t_sieve : Nat → Int32) (H : Heap) (locs : List Loc) (ls : Array Slot), I3 x4 t_sieve → m3 x4 t_sieve < n → va_P G vwCl (w_X8_siftProducts Y h_t B_t t_carriers t_reached t_sieve) H → va_D A (w_X8_siftProducts Y h_t B_t t_carriers t_reached t_sieve) → va_S A s.heap H locs → lv_has ls 9 [(0, .ref h_t), (1, .int x1), (2, .int x2), (3, .int x3), (4, .int x4)] → W p l e R s m args below meth c H locs 0 0 Q (F0 m 3 ls []) := by
    intro x1 x2 x3 I3 m3 hB3 n
    induction n with
    | zero => intro x4 t_sieve H locs ls _ hm; exact absurd hm (Nat.not_lt_zero _)
    | succ n ih =>
      intro x4 t_sieve H locs ls hI hm hP hD hS hl
      obtain ⟨R3, h, rec3⟩ : ∃ R3 : Int32 → (Nat → Int32) → Prop, pX8_siftProducts_3 t_carriers t_reached K x1 x2 x3 x4 t_sieve R3 ∧ ∀ (x4 : Int32) (t_sieve : Nat → Int32) (H : Heap) (locs : List Loc) (ls : Array Slot), R3 x4 t_sieve → va_P G vwCl (w_X8_siftProducts Y h_t B_t t_carriers t_reached t_sieve) H → va_D A (w_X8_siftProducts Y h_t B_t t_carriers t_reached t_sieve) → va_S A s.heap H locs → lv_has ls 9 [(0, .ref h_t), (1, .int x1), (2, .int x2), (3, .int x3), (4, .int x4)] → W p l e R s m args below meth c H locs 0 0 Q (F0 m 3 ls []) := ⟨_, hB3 x4 t_sieve hI, fun x4 t_sieve H locs ls hh hP hD hS hl => ih x4 t_sieve H locs ls hh.1 (Nat.lt_of_lt_of_le hh.2 (Nat.le_of_lt_succ hm)) hP hD hS hl⟩
      refine lv_iload hx hb dX8_siftProducts_3 (lv_at hl 4 rfl) ?_
      refine lv_iload_n hx hb dX8_siftProducts_5 rfl (lv_at hl 2 rfl) ?_
      obtain ⟨ht, hf⟩ := h
      refine lv_icmp_ge (tgt := 104) hx hb dX8_siftProducts_6 (by decide) (fun c9 => ?_) (fun c9 => ?_)
      · have h := ht c9
        exact hret t_sieve H locs ls _ hP hD hS h dX8_siftProducts_104
      · have h := hf c9
        refine lv_aload_n hx hb dX8_siftProducts_9 rfl (lv_at hl 0 rfl) ?_
        refine va_get (D := G) (ci := 7) (v := .ref (B_t 2)) (C := RX8) (T := TX8) (N := 3) hx hb hts inX8 hown hK hP 0 rfl rfl 2 (by decide) hf18 (fun _ h9 => h9) rfl dX8_siftProducts_10 ?_
        refine lv_iload hx hb dX8_siftProducts_13 (lv_at hl 4 rfl) ?_
        obtain ⟨hin, h⟩ := h
        refine va_iald hx hb hK hP 2 0 rfl rfl hin dX8_siftProducts_15 ?_
        refine lv_istore (lv' := [(5, .int (t_reached (Int32.toNatClampNeg x4))), (0, .ref h_t), (1, .int x1), (2, .int x2), (3, .int x3), (4, .int x4)]) hx hb dX8_siftProducts_16 hl (by decide) rfl (fun ls hl => ?_)
        refine lv_iload_n hx hb dX8_siftProducts_18 rfl (lv_at hl 2 rfl) ?_
        refine lv_bipush (v := 8) hx hb dX8_siftProducts_19 (by decide) ?_
        refine lv_imul hx hb dX8_siftProducts_21 ?_
        refine lv_istore (lv' := [(6, .int (x1 * (8 : Int32))), (5, .int (t_reached (Int32.toNatClampNeg x4))), (0, .ref h_t), (1, .int x1), (2, .int x2), (3, .int x3), (4, .int x4)]) hx hb dX8_siftProducts_22 hl (by decide) rfl (fun ls hl => ?_)
        obtain ⟨I24, m24, hI24, hB24⟩ := h
        have L24 : ∀ (x4 : Int32) (x5 : Int32) (I24 : Int32 → (Nat → Int32) → Prop) (m24 : Int32 → (Nat → Int32) → Nat), (∀ (x6 : Int32) (t_sieve : Nat → Int32), I24 x6 t_sieve → pX8_siftProducts_24 t_carriers t_reached R3 K x1 x2 x3 x4 x5 x6 t_sieve (fun x6' t_sieve' => I24 x6' t_sieve' ∧ m24 x6' t_sieve' < m24 x6 t_sieve)) → ∀ (n : Nat) (x6 : Int32) (t_sieve : Nat → Int32) (H : Heap) (locs : List Loc) (ls : Array Slot), I24 x6 t_sieve → m24 x6 t_sieve < n → va_P G vwCl (w_X8_siftProducts Y h_t B_t t_carriers t_reached t_sieve) H → va_D A (w_X8_siftProducts Y h_t B_t t_carriers t_reached t_sieve) → va_S A s.heap H locs → lv_has ls 9 [(0, .ref h_t), (1, .int x1), (2, .int x2), (3, .int x3), (4, .int x4), (5, .int x5), (6, .int x6)] → W p l e R s m args below meth c H locs 0 0 Q (F0 m 24 ls []) := by
          intro x4 x5 I24 m24 hB24 n
          induction n with
          | zero => intro x6 t_sieve H locs ls _ hm; exact absurd hm (Nat.not_lt_zero _)
          | succ n ih =>
            intro x6 t_sieve H locs ls hI hm hP hD hS hl
            obtain ⟨R24, h, rec24⟩ : ∃ R24 : Int32 → (Nat → Int32) → Prop, pX8_siftProducts_24 t_carriers t_reached R3 K x1 x2 x3 x4 x5 x6 t_sieve R24 ∧ ∀ (x6 : Int32) (t_sieve : Nat → Int32) (H : Heap) (locs : List Loc) (ls : Array Slot), R24 x6 t_sieve → va_P G vwCl (w_X8_siftProducts Y h_t B_t t_carriers t_reached t_sieve) H → va_D A (w_X8_siftProducts Y h_t B_t t_carriers t_reached t_sieve) → va_S A s.heap H locs → lv_has ls 9 [(0, .ref h_t), (1, .int x1), (2, .int x2), (3, .int x3), (4, .int x4), (5, .int x5), (6, .int x6)] → W p l e R s m args below meth c H locs 0 0 Q (F0 m 24 ls []) := ⟨_, hB24 x6 t_sieve hI, fun x6 t_sieve H locs ls hh hP hD hS hl => ih x6 t_sieve H locs ls hh.1 (Nat.lt_of_lt_of_le hh.2 (Nat.le_of_lt_succ hm)) hP hD hS hl⟩
            refine lv_iload hx hb dX8_siftProducts_24 (lv_at hl 6 rfl) ?_
            refine lv_bipush (v := 64) hx hb dX8_siftProducts_26 (by decide) ?_
            obtain ⟨ht, hf⟩ := h
            refine lv_icmp_ge (tgt := 98) hx hb dX8_siftProducts_28 (by decide) (fun c9 => ?_) (fun c9 => ?_)
            · have h := ht c9
              refine lv_iinc (v := (x4 + 1)) (lv' := [(4, .int (x4 + 1)), (0, .ref h_t), (1, .int x1), (2, .int x2), (3, .int x3), (5, .int x5), (6, .int x6)]) hx hb dX8_siftProducts_98 hl (k := 4) rfl rfl (by decide) rfl (fun ls hl => ?_)
              refine lv_goto (tgt := 3) hx hb dX8_siftProducts_101 (by decide) ?_
              exact rec3 (x4 + 1) t_sieve H locs ls h hP hD hS (lv_sub hl [1, 2, 3, 4, 0] rfl)
            · have h := hf c9
              refine lv_aload_n hx hb dX8_siftProducts_31 rfl (lv_at hl 0 rfl) ?_
              refine va_get (D := G) (ci := 7) (v := .ref (B_t 0)) (C := RX8) (T := TX8) (N := 3) hx hb hts inX8 hown hK hP 0 rfl rfl 0 (by decide) hf9 (fun _ h9 => h9) rfl dX8_siftProducts_32 ?_
              refine lv_iload hx hb dX8_siftProducts_35 (lv_at hl 6 rfl) ?_
              obtain ⟨hin, h⟩ := h
              refine va_iald hx hb hK hP 3 0 rfl rfl hin dX8_siftProducts_37 ?_
              refine lv_iconst (v := -1) hx hb dX8_siftProducts_38 (by decide) ?_
              obtain ⟨ht, hf⟩ := h
              refine lv_icmp_eq (tgt := 92) hx hb dX8_siftProducts_39 (by decide) (fun c9 => ?_) (fun c9 => ?_)
              · have h := ht c9
                refine lv_iinc (v := (x6 + 1)) (lv' := [(6, .int (x6 + 1)), (0, .ref h_t), (1, .int x1), (2, .int x2), (3, .int x3), (4, .int x4), (5, .int x5)]) hx hb dX8_siftProducts_92 hl (k := 6) rfl rfl (by decide) rfl (fun ls hl => ?_)
                refine lv_goto (tgt := 24) hx hb dX8_siftProducts_95 (by decide) ?_
                exact rec24 (x6 + 1) t_sieve H locs ls h hP hD hS (lv_sub hl [1, 2, 3, 4, 5, 6, 0] rfl)
              · have h := hf c9
                refine lv_aload_n hx hb dX8_siftProducts_42 rfl (lv_at hl 0 rfl) ?_
                refine va_get (D := G) (ci := 7) (v := .ref (B_t 0)) (C := RX8) (T := TX8) (N := 3) hx hb hts inX8 hown hK hP 0 rfl rfl 0 (by decide) hf9 (fun _ h9 => h9) rfl dX8_siftProducts_43 ?_
                refine lv_iload hx hb dX8_siftProducts_46 (lv_at hl 6 rfl) ?_
                obtain ⟨hin, h⟩ := h
                refine va_iald hx hb hK hP 3 0 rfl rfl hin dX8_siftProducts_48 ?_
                refine lv_aload_n hx hb dX8_siftProducts_49 rfl (lv_at hl 0 rfl) ?_
                refine va_get (D := G) (ci := 7) (v := .ref (B_t 1)) (C := RX8) (T := TX8) (N := 3) hx hb hts inX8 hown hK hP 0 rfl rfl 1 (by decide) hf15 (fun _ h9 => h9) rfl dX8_siftProducts_50 ?_
                refine lv_iload hx hb dX8_siftProducts_53 (lv_at hl 5 rfl) ?_
                obtain ⟨hin, h⟩ := h
                refine va_iald hx hb hK hP 1 0 rfl rfl hin dX8_siftProducts_55 ?_
                refine lv_iload_n hx hb dX8_siftProducts_56 rfl (lv_at hl 3 rfl) ?_
                refine mc_iS ⟨hx, hb, hml, hown, hts⟩ hK hE hA hP hD hS (c_X5_after l G Y tF H.size (t_sieve (Int32.toNatClampNeg x6)) (t_carriers (Int32.toNatClampNeg x5)) x3 h) (va_cwS 3 hts gX8_siftProducts_X5_after rfl rfl rfl (by decide +kernel) ⟨Nat.le_trans (by decide) hRf, Nat.le_trans (by decide) hRl⟩) (fun u => (w_X8_siftProducts Y h_t B_t t_carriers t_reached t_sieve)) [] [0, 1, 2, 3] [0, 1, 2, 3] rfl rfl rfl rfl (by decide) (fun _ => rfl) rfl rfl hl.1 rfl (Nat.le_of_ble_eq_true rfl) dX8_siftProducts_57 (fun r57 u H locs h hP hD hS => ?_)
                try dsimp only at h
                have hP : va_P G vwCl (w_X8_siftProducts Y h_t B_t t_carriers t_reached t_sieve) H := hP
                have hD : va_D A (w_X8_siftProducts Y h_t B_t t_carriers t_reached t_sieve) := hD
                refine lv_istore (lv' := [(7, .int r57), (0, .ref h_t), (1, .int x1), (2, .int x2), (3, .int x3), (4, .int x4), (5, .int x5), (6, .int x6)]) hx hb dX8_siftProducts_60 hl (by decide) rfl (fun ls hl => ?_)
                refine lv_aload_n hx hb dX8_siftProducts_62 rfl (lv_at hl 1 rfl) ?_
                refine va_get (D := G) (ci := 7) (v := .ref (B_t 1)) (C := RX8) (T := TX8) (N := 3) hx hb hts inX8 hown hK hP 0 rfl rfl 1 (by decide) hf15 (fun _ h9 => h9) rfl dX8_siftProducts_63 ?_
                refine lv_iload hx hb dX8_siftProducts_66 (lv_at hl 0 rfl) ?_
                refine lv_iload_n hx hb dX8_siftProducts_68 rfl (lv_at hl 2 rfl) ?_
                refine mc_iS ⟨hx, hb, hml, hown, hts⟩ hK hE hA hP hD hS (c_X5_image l G Y tF H.size r57 x1 h) (va_cwS 2 hts gX8_siftProducts_X5_image rfl rfl rfl (by decide +kernel) ⟨Nat.le_trans (by decide) hRf, Nat.le_trans (by decide) hRl⟩) (fun u => (w_X8_siftProducts Y h_t B_t t_carriers t_reached t_sieve)) [] [0, 1, 2, 3] [0, 1, 2, 3] rfl rfl rfl rfl (by decide) (fun _ => rfl) rfl rfl hl.1 rfl (Nat.le_of_ble_eq_true rfl) dX8_siftProducts_69 (fun r69 u H locs h hP hD hS => ?_)
                try dsimp only at h
                have hP : va_P G vwCl (w_X8_siftProducts Y h_t B_t t_carriers t_reached t_sieve) H := hP
                have hD : va_D A (w_X8_siftProducts Y h_t B_t t_carriers t_reached t_sieve) := hD
                obtain ⟨hin, h⟩ := h
                refine va_iald hx hb hK hP 1 0 rfl rfl hin dX8_siftProducts_72 ?_
                refine lv_iload_n hx hb dX8_siftProducts_73 rfl (lv_at hl 4 rfl) ?_
                refine mc_iS ⟨hx, hb, hml, hown, hts⟩ hK hE hA hP hD hS (c_X5_contrary l G Y tF H.size (t_carriers (Int32.toNatClampNeg r69)) x3 h) (va_cwS 2 hts gX8_siftProducts_X5_contrary rfl rfl rfl (by decide +kernel) ⟨Nat.le_trans (by decide) hRf, Nat.le_trans (by decide) hRl⟩) (fun u => (w_X8_siftProducts Y h_t B_t t_carriers t_reached t_sieve)) [] [0, 1, 2, 3] [0, 1, 2, 3] rfl rfl rfl rfl (by decide) (fun _ => rfl) rfl rfl hl.1 rfl (Nat.le_of_ble_eq_true rfl) dX8_siftProducts_74 (fun r74 u H locs h hP hD hS => ?_)
                try dsimp only at h
                have hP : va_P G vwCl (w_X8_siftProducts Y h_t B_t t_carriers t_reached t_sieve) H := hP
                have hD : va_D A (w_X8_siftProducts Y h_t B_t t_carriers t_reached t_sieve) := hD
                refine lv_istore (lv' := [(8, .int r74), (7, .int r57), (0, .ref h_t), (1, .int x1), (2, .int x2), (3, .int x3), (4, .int x4), (5, .int x5), (6, .int x6)]) hx hb dX8_siftProducts_77 hl (by decide) rfl (fun ls hl => ?_)
                refine lv_aload_n hx hb dX8_siftProducts_79 rfl (lv_at hl 2 rfl) ?_
                refine lv_iload hx hb dX8_siftProducts_80 (lv_at hl 0 rfl) ?_
                refine lv_iload hx hb dX8_siftProducts_82 (lv_at hl 1 rfl) ?_
                refine lv_iload_n hx hb dX8_siftProducts_84 rfl (lv_at hl 5 rfl) ?_
                refine mc_iS ⟨hx, hb, hml, hown, hts⟩ hK hE hA hP hD hS (c_X5_after l G Y tF H.size r74 r57 x3 h) (va_cwS 3 hts gX8_siftProducts_X5_after rfl rfl rfl (by decide +kernel) ⟨Nat.le_trans (by decide) hRf, Nat.le_trans (by decide) hRl⟩) (fun u => (w_X8_siftProducts Y h_t B_t t_carriers t_reached t_sieve)) [] [0, 1, 2, 3] [0, 1, 2, 3] rfl rfl rfl rfl (by decide) (fun _ => rfl) rfl rfl hl.1 rfl (Nat.le_of_ble_eq_true rfl) dX8_siftProducts_85 (fun r85 u H locs h hP hD hS => ?_)
                try dsimp only at h
                have hP : va_P G vwCl (w_X8_siftProducts Y h_t B_t t_carriers t_reached t_sieve) H := hP
                have hD : va_D A (w_X8_siftProducts Y h_t B_t t_carriers t_reached t_sieve) := hD
                refine lv_iload_n hx hb dX8_siftProducts_88 rfl (lv_at hl 5 rfl) ?_
                refine mc_vV ⟨hx, hb, hml, hown, hts⟩ hK hE hA hP hD hS (c_X8_sift l G Y tF H.size h_t B_t t_sieve r85 x3 h) (cwV 2 hts gX8_siftProducts_X8_sift rfl rfl rfl (by decide +kernel) ⟨Nat.le_trans (by decide) hRf, Nat.le_trans (by decide) hRl⟩) (fun u => (w_X8_siftProducts Y h_t B_t t_carriers t_reached u)) [0, 3] [1, 2] [2, 0, 1, 3] rfl rfl rfl rfl (by decide) (fun _ => rfl) rfl 0 7 rfl rfl rfl rfl hl.1 rfl (Nat.le_of_ble_eq_true rfl) dX8_siftProducts_89 (fun u H locs h hP hD hS => ?_)
                obtain ⟨t_sieve_89, rfl⟩ : ∃ z, z = u := ⟨_, rfl⟩
                try dsimp only at h
                have hP : va_P G vwCl (w_X8_siftProducts Y h_t B_t t_carriers t_reached t_sieve_89) H := hP
                have hD : va_D A (w_X8_siftProducts Y h_t B_t t_carriers t_reached t_sieve_89) := hD
                refine lv_iinc (v := (x6 + 1)) (lv' := [(6, .int (x6 + 1)), (8, .int r74), (7, .int r57), (0, .ref h_t), (1, .int x1), (2, .int x2), (3, .int x3), (4, .int x4), (5, .int x5)]) hx hb dX8_siftProducts_92 hl (k := 8) rfl rfl (by decide) rfl (fun ls hl => ?_)
                refine lv_goto (tgt := 24) hx hb dX8_siftProducts_95 (by decide) ?_
                exact rec24 (x6 + 1) t_sieve_89 H locs ls h hP hD hS (lv_sub hl [3, 4, 5, 6, 7, 8, 0] rfl)
        exact L24 x4 (t_reached (Int32.toNatClampNeg x4)) I24 m24 hB24 _ (x1 * (8 : Int32)) t_sieve H locs ls hI24 (Nat.lt_succ_self _) hP hD hS (lv_sub hl [2, 3, 4, 5, 6, 1, 0] rfl)
  exact L3 x1 x2 x3 I3 m3 hB3 _ (0 : Int32) t_sieve H locs ls hI3 (Nat.lt_succ_self _) hP hD hS (lv_sub hl [1, 2, 3, 4, 0] rfl)

set_option maxHeartbeats 4000000 in
set_option maxRecDepth 100000 in
theorem c_X8_siftProducts (l : Launch) (G : va_G) (Y : Nat → ClassId) (tF sz : Nat) (h_t : Nat) (B_t : Nat → Nat) (t_carriers : Nat → Int32) (t_reached : Nat → Int32) (t_sieve : Nat → Int32) (x1 : Int32) (x2 : Int32) (x3 : Int32) {K : (Nat → Int32) → Prop} (h : pX8_siftProducts t_carriers t_reached t_sieve x1 x2 x3 K) : Met l yX8_siftProducts wsX8_siftProducts ({ frames := 3, cells := 0, slots := 0, locals := 72 }) (PcM G Y tF sz (w_X8_siftProducts Y h_t B_t t_carriers t_reached t_sieve) [.ref h_t, .int x1, .int x2, .int x3]) (va_Qv (fun u : (Nat → Int32) => K u) (fun u t => BM G Y (va_A (w_X8_siftProducts Y h_t B_t t_carriers t_reached t_sieve) sz) (w_X8_siftProducts Y h_t B_t t_carriers t_reached u) t) (va_A (w_X8_siftProducts Y h_t B_t t_carriers t_reached t_sieve) sz)) 0 0 (va_A (w_X8_siftProducts Y h_t B_t t_carriers t_reached t_sieve) sz) := by
  refine Met.ofW (cc := cX8_siftProducts) (maxL := 9) (ret := none) (by decide +kernel) rfl ?_
  intro p e s m args below meth c s₁ B hml hv
  obtain ⟨rfl, hsz, hP, hK, hD0, hE⟩ := hv
  have hts := atoms_spec (ws := wsX8_siftProducts) B.pre
  have hown : s.vm.findClass RX8 = some m.cls := findClass_of_methodNamed B.named
  have hlocks := B.notSynchronized
  subst hsz
  have hD := hD0.self (sz := s.heap.size)
  exact wk_X8_siftProducts h_t B_t t_carriers t_reached t_sieve x1 x2 x3 B.exec B.bytes hml hown hts hK hE (fun q h => Or.inr h) (Nat.le_refl _) (Nat.le_refl _) (fun t_sieve H locs ls pc hP hD hS hk hd => W.vret B.exec B.bytes B.returns (fun t ht hW => ⟨⟨t_sieve, rfl, hk, by rw [ht]; exact hP, va_K.moved hW.alike hK, hD⟩, hS.F ht⟩) hS.2.2 hd) hP hD h

abbrev w_X8_orderOf (Y : Nat → ClassId) (h_t : Nat) (h_p1 : Nat) (B_t : Nat → Nat) (B_p1 : Nat → Nat) (t_carriers : Nat → Int32) (t_reached : Nat → Int32) (t_sieve : Nat → Int32) (p1_n : Int32) (p1_cells : Nat → Int32) : va_W := [(h_t, .inr (7, [.ref (B_t 0), .ref (B_t 1), .ref (B_t 2)])), ((B_t 1), .inl (Y 0, 8, .inl t_carriers)), ((B_t 2), .inl (Y 0, 8, .inl t_reached)), ((B_t 0), .inl (Y 0, 64, .inl t_sieve)), (h_p1, .inr (6, [.ref (B_p1 0), .int p1_n])), ((B_p1 0), .inl (Y 0, 64, .inl p1_cells))]

set_option maxHeartbeats 4000000 in
set_option maxRecDepth 100000 in
theorem wk_X8_orderOf {p : Program} {l : Launch} {e : Env} {R : Room} {s : State} {m : MethodId} {args : Array Value} {below : List Frame} {meth : Method} {c : Code} {Q : State → Prop} {G : va_G} {Y : Nat → ClassId} {tF : Nat} {A : Nat → Prop} (h_t : Nat) (h_p1 : Nat) (B_t : Nat → Nat) (B_p1 : Nat → Nat) (t_carriers : Nat → Int32) (t_reached : Nat → Int32) (t_sieve : Nat → Int32) (p1_n : Int32) (p1_cells : Nat → Int32) {K : Int32 → (Nat → Int32) → (Nat → Int32) → (Nat → Int32) → Prop} (hx : p.tables.exec = Jvm.exec) (hb : c.code = cX8_orderOf) (hml : c.maxLocals = 5) (hown : s.vm.findClass RX8 = some m.cls) (hts : ∀ w ∈ wsX8_orderOf, w.before args s = true) (hK : va_K G vwCl (tyL Y) s) (hE : Ev A tF s) (hA : ∀ q, s.heap.size ≤ q → A q) (hRf : 4 ≤ R.frames) (hRl : 100 ≤ R.locals) (hret : ∀ (r : Int32) (t_carriers : Nat → Int32) (t_reached : Nat → Int32) (t_sieve : Nat → Int32) (H : Heap) (locs : List Loc) (ls : Array Slot) (pc : Nat), va_P G vwCl (w_X8_orderOf Y h_t h_p1 B_t B_p1 t_carriers t_reached t_sieve p1_n p1_cells) H → va_D A (w_X8_orderOf Y h_t h_p1 B_t B_p1 t_carriers t_reached t_sieve p1_n p1_cells) → va_S A s.heap H locs → K r t_carriers t_reached t_sieve → decode cX8_orderOf pc = .ok (.ireturn, 1) → W p l e R s m args below meth c H locs 0 0 Q (F0 m pc ls [.int r])) (hP : va_P G vwCl (w_X8_orderOf Y h_t h_p1 B_t B_p1 t_carriers t_reached t_sieve p1_n p1_cells) s.heap) (hD : va_D A (w_X8_orderOf Y h_t h_p1 B_t B_p1 t_carriers t_reached t_sieve p1_n p1_cells)) (h : pX8_orderOf t_carriers t_reached t_sieve p1_n p1_cells K) : W p l e R s m args below meth c s.heap [] 0 0 Q (entryFrame m ([.ref h_t, .ref h_p1] : List Value).toArray 5) := by
  have inX7 : ∀ w ∈ u_ws RX7 TX7 2, w ∈ wsX8_orderOf := by decide +kernel
  have inX8 : ∀ w ∈ u_ws RX8 TX8 3, w ∈ wsX8_orderOf := by decide +kernel
  have hf9 := hts (.fieldLink RX8 9 "RackBench$TurnGroup" "sieve" "[I") (by decide +kernel)
  have hl := lv_entry ([.ref h_t, .ref h_p1]) (n := 5) (Nat.le_of_ble_eq_true rfl)
  rw [lg_entry_eq]
  generalize (lg_sl ([.ref h_t, .ref h_p1]) ++ List.replicate (5 - (lg_sl ([.ref h_t, .ref h_p1])).length) Slot.unset).toArray = ls at hl ⊢
  have hl : lv_has ls 5 [(0, .ref h_t), (1, .ref h_p1)] := hl
  generalize hH0 : s.heap = H at hP ⊢
  have hS : va_S A s.heap H [] := by rw [← hH0]; exact va_S.rf
  clear hH0
  generalize ([] : List Loc) = locs at hS ⊢
  refine lv_aload_n hx hb dX8_orderOf_0 rfl (lv_at hl 0 rfl) ?_
  refine va_get (D := G) (ci := 7) (v := .ref (B_t 0)) (C := RX8) (T := TX8) (N := 3) hx hb hts inX8 hown hK hP 0 rfl rfl 0 (by decide) hf9 (fun _ h9 => h9) rfl dX8_orderOf_1 ?_
  refine lv_iconst (v := -1) hx hb dX8_orderOf_4 (by decide) ?_
  refine mc_vS ⟨hx, hb, hml, hown, hts⟩ hK hE hA hP hD hS (c_J7_fill_53178 l G Y tF H.size (B_t 0) 64 t_sieve (-1 : Int32) h) (va_cwS 2 hts gX8_orderOf_J7_fill_53178 rfl rfl rfl (by decide +kernel) ⟨Nat.le_trans (by decide) hRf, Nat.le_trans (by decide) hRl⟩) (fun u => (w_X8_orderOf Y h_t h_p1 B_t B_p1 t_carriers t_reached u p1_n p1_cells)) [3] [0, 1, 2, 4, 5] [0, 1, 2, 5, 3, 4] rfl rfl rfl rfl (by decide) (fun _ => rfl) rfl rfl hl.1 rfl (Nat.le_of_ble_eq_true rfl) dX8_orderOf_5 (fun u H locs h hP hD hS => ?_)
  obtain ⟨t_sieve_5, rfl⟩ : ∃ z, z = u := ⟨_, rfl⟩
  try dsimp only at h
  have hP : va_P G vwCl (w_X8_orderOf Y h_t h_p1 B_t B_p1 t_carriers t_reached t_sieve_5 p1_n p1_cells) H := hP
  have hD : va_D A (w_X8_orderOf Y h_t h_p1 B_t B_p1 t_carriers t_reached t_sieve_5 p1_n p1_cells) := hD
  refine lv_iconst (v := 0) hx hb dX8_orderOf_8 (by decide) ?_
  refine lv_istore_n (lv' := [(2, .int (0 : Int32)), (0, .ref h_t), (1, .ref h_p1)]) hx hb dX8_orderOf_9 rfl hl (by decide) rfl (fun ls hl => ?_)
  obtain ⟨I10, m10, hI10, hB10⟩ := h
  have L10 : ∀ (t_carriers : Nat → Int32) (t_reached : Nat → Int32) (I10 : Int32 → (Nat → Int32) → Prop) (m10 : Int32 → (Nat → Int32) → Nat), (∀ (x2 : Int32) (t_sieve : Nat → Int32), I10 x2 t_sieve → pX8_orderOf_10 p1_n p1_cells K t_carriers t_reached x2 t_sieve (fun x2' t_sieve' => I10 x2' t_sieve' ∧ m10 x2' t_sieve' < m10 x2 t_sieve)) → ∀ (n : Nat) (x2 : Int32) (t_sieve : Nat → Int32) (H : Heap) (locs : List Loc) (ls : Array Slot), I10 x2 t_sieve → m10 x2 t_sieve < n → va_P G vwCl (w_X8_orderOf Y h_t h_p1 B_t B_p1 t_carriers t_reached t_sieve p1_n p1_cells) H → va_D A (w_X8_orderOf Y h_t h_p1 B_t B_p1 t_carriers t_reached t_sieve p1_n p1_cells) → va_S A s.heap H locs → lv_has ls 5 [(0, .ref h_t), (1, .ref h_p1), (2, .int x2)] → W p l e R s m args below meth c H locs 0 0 Q (F0 m 10 ls []) := by
    intro t_carriers t_reached I10 m10 hB10 n
    induction n with
    | zero => intro x2 t_sieve H locs ls _ hm; exact absurd hm (Nat.not_lt_zero _)
    | succ n ih =>
      intro x2 t_sieve H locs ls hI hm hP hD hS hl
      obtain ⟨R10, h, rec10⟩ : ∃ R10 : Int32 → (Nat → Int32) → Prop, pX8_orderOf_10 p1_n p1_cells K t_carriers t_reached x2 t_sieve R10 ∧ ∀ (x2 : Int32) (t_sieve : Nat → Int32) (H : Heap) (locs : List Loc) (ls : Array Slot), R10 x2 t_sieve → va_P G vwCl (w_X8_orderOf Y h_t h_p1 B_t B_p1 t_carriers t_reached t_sieve p1_n p1_cells) H → va_D A (w_X8_orderOf Y h_t h_p1 B_t B_p1 t_carriers t_reached t_sieve p1_n p1_cells) → va_S A s.heap H locs → lv_has ls 5 [(0, .ref h_t), (1, .ref h_p1), (2, .int x2)] → W p l e R s m args below meth c H locs 0 0 Q (F0 m 10 ls []) := ⟨_, hB10 x2 t_sieve hI, fun x2 t_sieve H locs ls hh hP hD hS hl => ih x2 t_sieve H locs ls hh.1 (Nat.lt_of_lt_of_le hh.2 (Nat.le_of_lt_succ hm)) hP hD hS hl⟩
      refine lv_iload_n hx hb dX8_orderOf_10 rfl (lv_at hl 2 rfl) ?_
      refine lv_aload_n hx hb dX8_orderOf_11 rfl (lv_at hl 1 rfl) ?_
      refine va_getN (D := G) (ci := 6) (v := .int p1_n) (C := RX7) (T := TX7) (N := 2) hx hb hts inX7 hown hK hP 4 rfl rfl 1 (by decide) (hE.nest args 13 _ rfl) (fun _ h9 => h9) rfl dX8_orderOf_12 ?_
      obtain ⟨ht, hf⟩ := h
      refine lv_icmp_ge (tgt := 67) hx hb dX8_orderOf_15 (by decide) (fun c9 => ?_) (fun c9 => ?_)
      · have h := ht c9
        refine lv_iconst (v := 1) hx hb dX8_orderOf_67 (by decide) ?_
        refine lv_istore_n (lv' := [(2, .int (1 : Int32)), (0, .ref h_t), (1, .ref h_p1)]) hx hb dX8_orderOf_68 rfl hl (by decide) rfl (fun ls hl => ?_)
        refine lv_iconst (v := 0) hx hb dX8_orderOf_69 (by decide) ?_
        refine lv_istore_n (lv' := [(3, .int (0 : Int32)), (2, .int (1 : Int32)), (0, .ref h_t), (1, .ref h_p1)]) hx hb dX8_orderOf_70 rfl hl (by decide) rfl (fun ls hl => ?_)
        obtain ⟨I71, m71, hI71, hB71⟩ := h
        have L71 : ∀  (I71 : Int32 → Int32 → (Nat → Int32) → (Nat → Int32) → (Nat → Int32) → Prop) (m71 : Int32 → Int32 → (Nat → Int32) → (Nat → Int32) → (Nat → Int32) → Nat), (∀ (x2 : Int32) (x3 : Int32) (t_carriers : Nat → Int32) (t_reached : Nat → Int32) (t_sieve : Nat → Int32), I71 x2 x3 t_carriers t_reached t_sieve → pX8_orderOf_71 p1_n p1_cells R10 K x2 x3 t_carriers t_reached t_sieve (fun x2' x3' t_carriers' t_reached' t_sieve' => I71 x2' x3' t_carriers' t_reached' t_sieve' ∧ m71 x2' x3' t_carriers' t_reached' t_sieve' < m71 x2 x3 t_carriers t_reached t_sieve)) → ∀ (n : Nat) (x2 : Int32) (x3 : Int32) (t_carriers : Nat → Int32) (t_reached : Nat → Int32) (t_sieve : Nat → Int32) (H : Heap) (locs : List Loc) (ls : Array Slot), I71 x2 x3 t_carriers t_reached t_sieve → m71 x2 x3 t_carriers t_reached t_sieve < n → va_P G vwCl (w_X8_orderOf Y h_t h_p1 B_t B_p1 t_carriers t_reached t_sieve p1_n p1_cells) H → va_D A (w_X8_orderOf Y h_t h_p1 B_t B_p1 t_carriers t_reached t_sieve p1_n p1_cells) → va_S A s.heap H locs → lv_has ls 5 [(0, .ref h_t), (1, .ref h_p1), (2, .int x2), (3, .int x3)] → W p l e R s m args below meth c H locs 0 0 Q (F0 m 71 ls []) := by
          intro  I71 m71 hB71 n
          induction n with
          | zero => intro x2 x3 t_carriers t_reached t_sieve H locs ls _ hm; exact absurd hm (Nat.not_lt_zero _)
          | succ n ih =>
            intro x2 x3 t_carriers t_reached t_sieve H locs ls hI hm hP hD hS hl
            obtain ⟨R71, h, rec71⟩ : ∃ R71 : Int32 → Int32 → (Nat → Int32) → (Nat → Int32) → (Nat → Int32) → Prop, pX8_orderOf_71 p1_n p1_cells R10 K x2 x3 t_carriers t_reached t_sieve R71 ∧ ∀ (x2 : Int32) (x3 : Int32) (t_carriers : Nat → Int32) (t_reached : Nat → Int32) (t_sieve : Nat → Int32) (H : Heap) (locs : List Loc) (ls : Array Slot), R71 x2 x3 t_carriers t_reached t_sieve → va_P G vwCl (w_X8_orderOf Y h_t h_p1 B_t B_p1 t_carriers t_reached t_sieve p1_n p1_cells) H → va_D A (w_X8_orderOf Y h_t h_p1 B_t B_p1 t_carriers t_reached t_sieve p1_n p1_cells) → va_S A s.heap H locs → lv_has ls 5 [(0, .ref h_t), (1, .ref h_p1), (2, .int x2), (3, .int x3)] → W p l e R s m args below meth c H locs 0 0 Q (F0 m 71 ls []) := ⟨_, hB71 x2 x3 t_carriers t_reached t_sieve hI, fun x2 x3 t_carriers t_reached t_sieve H locs ls hh hP hD hS hl => ih x2 x3 t_carriers t_reached t_sieve H locs ls hh.1 (Nat.lt_of_lt_of_le hh.2 (Nat.le_of_lt_succ hm)) hP hD hS hl⟩
            refine lv_iload_n hx hb dX8_orderOf_71 rfl (lv_at hl 3 rfl) ?_
            refine lv_aload_n hx hb dX8_orderOf_72 rfl (lv_at hl 1 rfl) ?_
            refine va_getN (D := G) (ci := 6) (v := .int p1_n) (C := RX7) (T := TX7) (N := 2) hx hb hts inX7 hown hK hP 4 rfl rfl 1 (by decide) (hE.nest args 13 _ rfl) (fun _ h9 => h9) rfl dX8_orderOf_73 ?_
            obtain ⟨ht, hf⟩ := h
            refine lv_icmp_ge (tgt := 112) hx hb dX8_orderOf_76 (by decide) (fun c9 => ?_) (fun c9 => ?_)
            · have h := ht c9
              refine lv_iload_n hx hb dX8_orderOf_112 rfl (lv_at hl 2 rfl) ?_
              exact hret x2 t_carriers t_reached t_sieve H locs ls _ hP hD hS h dX8_orderOf_113
            · have h := hf c9
              refine lv_aload_n hx hb dX8_orderOf_79 rfl (lv_at hl 0 rfl) ?_
              refine lv_iload_n hx hb dX8_orderOf_80 rfl (lv_at hl 3 rfl) ?_
              refine lv_aload_n hx hb dX8_orderOf_81 rfl (lv_at hl 1 rfl) ?_
              refine va_getN (D := G) (ci := 6) (v := .int p1_n) (C := RX7) (T := TX7) (N := 2) hx hb hts inX7 hown hK hP 4 rfl rfl 1 (by decide) (hE.nest args 13 _ rfl) (fun _ h9 => h9) rfl dX8_orderOf_82 ?_
              refine mc_iV ⟨hx, hb, hml, hown, hts⟩ hK hE hA hP hD hS (c_X8_reachFrom l G Y tF H.size h_t B_t t_carriers t_reached t_sieve x3 p1_n h) (cwV 2 hts gX8_orderOf_X8_reachFrom rfl rfl rfl (by decide +kernel) ⟨Nat.le_trans (by decide) hRf, Nat.le_trans (by decide) hRl⟩) (fun u => (w_X8_orderOf Y h_t h_p1 B_t B_p1 u.1 u.2 t_sieve p1_n p1_cells)) [0, 1, 2, 3] [4, 5] [2, 3, 4, 5, 0, 1] rfl rfl rfl rfl (by decide) (fun _ => rfl) rfl 0 7 rfl rfl rfl rfl hl.1 rfl (Nat.le_of_ble_eq_true rfl) dX8_orderOf_85 (fun r85 u H locs h hP hD hS => ?_)
              obtain ⟨t_carriers_85, t_reached_85⟩ := u
              try dsimp only at h
              have hP : va_P G vwCl (w_X8_orderOf Y h_t h_p1 B_t B_p1 t_carriers_85 t_reached_85 t_sieve p1_n p1_cells) H := hP
              have hD : va_D A (w_X8_orderOf Y h_t h_p1 B_t B_p1 t_carriers_85 t_reached_85 t_sieve p1_n p1_cells) := hD
              refine lv_istore (lv' := [(4, .int r85), (0, .ref h_t), (1, .ref h_p1), (2, .int x2), (3, .int x3)]) hx hb dX8_orderOf_88 hl (by decide) rfl (fun ls hl => ?_)
              refine lv_iload_n hx hb dX8_orderOf_90 rfl (lv_at hl 3 rfl) ?_
              refine lv_iload hx hb dX8_orderOf_91 (lv_at hl 0 rfl) ?_
              refine lv_imul hx hb dX8_orderOf_93 ?_
              refine lv_istore_n (lv' := [(2, .int (x2 * r85)), (4, .int r85), (0, .ref h_t), (1, .ref h_p1), (3, .int x3)]) hx hb dX8_orderOf_94 rfl hl (by decide) rfl (fun ls hl => ?_)
              refine lv_aload_n hx hb dX8_orderOf_95 rfl (lv_at hl 2 rfl) ?_
              refine lv_iload_n hx hb dX8_orderOf_96 rfl (lv_at hl 4 rfl) ?_
              refine lv_iload hx hb dX8_orderOf_97 (lv_at hl 1 rfl) ?_
              refine lv_aload_n hx hb dX8_orderOf_99 rfl (lv_at hl 3 rfl) ?_
              refine va_getN (D := G) (ci := 6) (v := .int p1_n) (C := RX7) (T := TX7) (N := 2) hx hb hts inX7 hown hK hP 4 rfl rfl 1 (by decide) (hE.nest args 13 _ rfl) (fun _ h9 => h9) rfl dX8_orderOf_100 ?_
              refine mc_vV ⟨hx, hb, hml, hown, hts⟩ hK hE hA hP hD hS (c_X8_siftProducts l G Y tF H.size h_t B_t t_carriers_85 t_reached_85 t_sieve x3 r85 p1_n h) (cwV 3 hts gX8_orderOf_X8_siftProducts rfl rfl rfl (by decide +kernel) ⟨Nat.le_trans (by decide) hRf, Nat.le_trans (by decide) hRl⟩) (fun u => (w_X8_orderOf Y h_t h_p1 B_t B_p1 t_carriers_85 t_reached_85 u p1_n p1_cells)) [0, 1, 2, 3] [4, 5] [2, 3, 4, 5, 0, 1] rfl rfl rfl rfl (by decide) (fun _ => rfl) rfl 0 7 rfl rfl rfl rfl hl.1 rfl (Nat.le_of_ble_eq_true rfl) dX8_orderOf_103 (fun u H locs h hP hD hS => ?_)
              obtain ⟨t_sieve_103, rfl⟩ : ∃ z, z = u := ⟨_, rfl⟩
              try dsimp only at h
              have hP : va_P G vwCl (w_X8_orderOf Y h_t h_p1 B_t B_p1 t_carriers_85 t_reached_85 t_sieve_103 p1_n p1_cells) H := hP
              have hD : va_D A (w_X8_orderOf Y h_t h_p1 B_t B_p1 t_carriers_85 t_reached_85 t_sieve_103 p1_n p1_cells) := hD
              refine lv_iinc (v := (x3 + 1)) (lv' := [(3, .int (x3 + 1)), (2, .int (x2 * r85)), (4, .int r85), (0, .ref h_t), (1, .ref h_p1)]) hx hb dX8_orderOf_106 hl (k := 4) rfl rfl (by decide) rfl (fun ls hl => ?_)
              refine lv_goto (tgt := 71) hx hb dX8_orderOf_109 (by decide) ?_
              exact rec71 (x2 * r85) (x3 + 1) t_carriers_85 t_reached_85 t_sieve_103 H locs ls h hP hD hS (lv_sub hl [3, 4, 1, 0] rfl)
        exact L71  I71 m71 hB71 _ (1 : Int32) (0 : Int32) t_carriers t_reached t_sieve H locs ls hI71 (Nat.lt_succ_self _) hP hD hS (lv_sub hl [2, 3, 1, 0] rfl)
      · have h := hf c9
        refine lv_iconst (v := 0) hx hb dX8_orderOf_18 (by decide) ?_
        refine lv_istore_n (lv' := [(3, .int (0 : Int32)), (0, .ref h_t), (1, .ref h_p1), (2, .int x2)]) hx hb dX8_orderOf_19 rfl hl (by decide) rfl (fun ls hl => ?_)
        refine lv_iconst (v := 0) hx hb dX8_orderOf_20 (by decide) ?_
        refine lv_istore (lv' := [(4, .int (0 : Int32)), (3, .int (0 : Int32)), (0, .ref h_t), (1, .ref h_p1), (2, .int x2)]) hx hb dX8_orderOf_21 hl (by decide) rfl (fun ls hl => ?_)
        obtain ⟨I23, m23, hI23, hB23⟩ := h
        have L23 : ∀ (x2 : Int32) (t_sieve : Nat → Int32) (I23 : Int32 → Int32 → Prop) (m23 : Int32 → Int32 → Nat), (∀ (x3 : Int32) (x4 : Int32), I23 x3 x4 → pX8_orderOf_23 p1_n p1_cells R10 K t_carriers t_reached x2 t_sieve x3 x4 (fun x3' x4' => I23 x3' x4' ∧ m23 x3' x4' < m23 x3 x4)) → ∀ (n : Nat) (x3 : Int32) (x4 : Int32) (H : Heap) (locs : List Loc) (ls : Array Slot), I23 x3 x4 → m23 x3 x4 < n → va_P G vwCl (w_X8_orderOf Y h_t h_p1 B_t B_p1 t_carriers t_reached t_sieve p1_n p1_cells) H → va_D A (w_X8_orderOf Y h_t h_p1 B_t B_p1 t_carriers t_reached t_sieve p1_n p1_cells) → va_S A s.heap H locs → lv_has ls 5 [(0, .ref h_t), (1, .ref h_p1), (2, .int x2), (3, .int x3), (4, .int x4)] → W p l e R s m args below meth c H locs 0 0 Q (F0 m 23 ls []) := by
          intro x2 t_sieve I23 m23 hB23 n
          induction n with
          | zero => intro x3 x4 H locs ls _ hm; exact absurd hm (Nat.not_lt_zero _)
          | succ n ih =>
            intro x3 x4 H locs ls hI hm hP hD hS hl
            obtain ⟨R23, h, rec23⟩ : ∃ R23 : Int32 → Int32 → Prop, pX8_orderOf_23 p1_n p1_cells R10 K t_carriers t_reached x2 t_sieve x3 x4 R23 ∧ ∀ (x3 : Int32) (x4 : Int32) (H : Heap) (locs : List Loc) (ls : Array Slot), R23 x3 x4 → va_P G vwCl (w_X8_orderOf Y h_t h_p1 B_t B_p1 t_carriers t_reached t_sieve p1_n p1_cells) H → va_D A (w_X8_orderOf Y h_t h_p1 B_t B_p1 t_carriers t_reached t_sieve p1_n p1_cells) → va_S A s.heap H locs → lv_has ls 5 [(0, .ref h_t), (1, .ref h_p1), (2, .int x2), (3, .int x3), (4, .int x4)] → W p l e R s m args below meth c H locs 0 0 Q (F0 m 23 ls []) := ⟨_, hB23 x3 x4 hI, fun x3 x4 H locs ls hh hP hD hS hl => ih x3 x4 H locs ls hh.1 (Nat.lt_of_lt_of_le hh.2 (Nat.le_of_lt_succ hm)) hP hD hS hl⟩
            refine lv_iload hx hb dX8_orderOf_23 (lv_at hl 4 rfl) ?_
            refine lv_aload_n hx hb dX8_orderOf_25 rfl (lv_at hl 1 rfl) ?_
            refine va_getN (D := G) (ci := 6) (v := .int p1_n) (C := RX7) (T := TX7) (N := 2) hx hb hts inX7 hown hK hP 4 rfl rfl 1 (by decide) (hE.nest args 13 _ rfl) (fun _ h9 => h9) rfl dX8_orderOf_26 ?_
            obtain ⟨ht, hf⟩ := h
            refine lv_icmp_ge (tgt := 52) hx hb dX8_orderOf_29 (by decide) (fun c9 => ?_) (fun c9 => ?_)
            · have h := ht c9
              refine lv_aload_n hx hb dX8_orderOf_52 rfl (lv_at hl 0 rfl) ?_
              refine lv_iload_n hx hb dX8_orderOf_53 rfl (lv_at hl 3 rfl) ?_
              refine lv_aload_n hx hb dX8_orderOf_54 rfl (lv_at hl 1 rfl) ?_
              refine va_getN (D := G) (ci := 6) (v := .int p1_n) (C := RX7) (T := TX7) (N := 2) hx hb hts inX7 hown hK hP 4 rfl rfl 1 (by decide) (hE.nest args 13 _ rfl) (fun _ h9 => h9) rfl dX8_orderOf_55 ?_
              refine mc_vV ⟨hx, hb, hml, hown, hts⟩ hK hE hA hP hD hS (c_X8_sift l G Y tF H.size h_t B_t t_sieve x3 p1_n h) (cwV 2 hts gX8_orderOf_X8_sift rfl rfl rfl (by decide +kernel) ⟨Nat.le_trans (by decide) hRf, Nat.le_trans (by decide) hRl⟩) (fun u => (w_X8_orderOf Y h_t h_p1 B_t B_p1 t_carriers t_reached u p1_n p1_cells)) [0, 3] [1, 2, 4, 5] [4, 0, 1, 5, 2, 3] rfl rfl rfl rfl (by decide) (fun _ => rfl) rfl 0 7 rfl rfl rfl rfl hl.1 rfl (Nat.le_of_ble_eq_true rfl) dX8_orderOf_58 (fun u H locs h hP hD hS => ?_)
              obtain ⟨t_sieve_58, rfl⟩ : ∃ z, z = u := ⟨_, rfl⟩
              try dsimp only at h
              have hP : va_P G vwCl (w_X8_orderOf Y h_t h_p1 B_t B_p1 t_carriers t_reached t_sieve_58 p1_n p1_cells) H := hP
              have hD : va_D A (w_X8_orderOf Y h_t h_p1 B_t B_p1 t_carriers t_reached t_sieve_58 p1_n p1_cells) := hD
              refine lv_iinc (v := (x2 + 1)) (lv' := [(2, .int (x2 + 1)), (0, .ref h_t), (1, .ref h_p1), (3, .int x3), (4, .int x4)]) hx hb dX8_orderOf_61 hl (k := 2) rfl rfl (by decide) rfl (fun ls hl => ?_)
              refine lv_goto (tgt := 10) hx hb dX8_orderOf_64 (by decide) ?_
              exact rec10 (x2 + 1) t_sieve_58 H locs ls h hP hD hS (lv_sub hl [1, 2, 0] rfl)
            · have h := hf c9
              refine lv_iload_n hx hb dX8_orderOf_32 rfl (lv_at hl 3 rfl) ?_
              refine lv_iload hx hb dX8_orderOf_33 (lv_at hl 4 rfl) ?_
              refine lv_aload_n hx hb dX8_orderOf_35 rfl (lv_at hl 1 rfl) ?_
              refine lv_iload_n hx hb dX8_orderOf_36 rfl (lv_at hl 2 rfl) ?_
              refine lv_iload hx hb dX8_orderOf_37 (lv_at hl 4 rfl) ?_
              refine mc_iV ⟨hx, hb, hml, hown, hts⟩ hK hE hA hP hD hS (c_X7_turned l G Y tF H.size h_p1 B_p1 p1_n p1_cells x2 x4 h) (cwV 2 hts gX8_orderOf_X7_turned rfl rfl rfl (by decide +kernel) ⟨Nat.le_trans (by decide) hRf, Nat.le_trans (by decide) hRl⟩) (fun u => (w_X8_orderOf Y h_t h_p1 B_t B_p1 t_carriers t_reached t_sieve p1_n p1_cells)) [4, 5] [0, 1, 2, 3] [0, 1, 2, 3, 4, 5] rfl rfl rfl rfl (by decide) (fun _ => rfl) rfl 4 6 rfl rfl rfl rfl hl.1 rfl (Nat.le_of_ble_eq_true rfl) dX8_orderOf_39 (fun r39 u H locs h hP hD hS => ?_)
              try dsimp only at h
              have hP : va_P G vwCl (w_X8_orderOf Y h_t h_p1 B_t B_p1 t_carriers t_reached t_sieve p1_n p1_cells) H := hP
              have hD : va_D A (w_X8_orderOf Y h_t h_p1 B_t B_p1 t_carriers t_reached t_sieve p1_n p1_cells) := hD
              refine mc_iS ⟨hx, hb, hml, hown, hts⟩ hK hE hA hP hD hS (c_X5_with l G Y tF H.size x3 x4 r39 h) (va_cwS 3 hts gX8_orderOf_X5_with rfl rfl rfl (by decide +kernel) ⟨Nat.le_trans (by decide) hRf, Nat.le_trans (by decide) hRl⟩) (fun u => (w_X8_orderOf Y h_t h_p1 B_t B_p1 t_carriers t_reached t_sieve p1_n p1_cells)) [] [0, 1, 2, 3, 4, 5] [0, 1, 2, 3, 4, 5] rfl rfl rfl rfl (by decide) (fun _ => rfl) rfl rfl hl.1 rfl (Nat.le_of_ble_eq_true rfl) dX8_orderOf_42 (fun r42 u H locs h hP hD hS => ?_)
              try dsimp only at h
              have hP : va_P G vwCl (w_X8_orderOf Y h_t h_p1 B_t B_p1 t_carriers t_reached t_sieve p1_n p1_cells) H := hP
              have hD : va_D A (w_X8_orderOf Y h_t h_p1 B_t B_p1 t_carriers t_reached t_sieve p1_n p1_cells) := hD
              refine lv_istore_n (lv' := [(3, .int r42), (0, .ref h_t), (1, .ref h_p1), (2, .int x2), (4, .int x4)]) hx hb dX8_orderOf_45 rfl hl (by decide) rfl (fun ls hl => ?_)
              refine lv_iinc (v := (x4 + 1)) (lv' := [(4, .int (x4 + 1)), (3, .int r42), (0, .ref h_t), (1, .ref h_p1), (2, .int x2)]) hx hb dX8_orderOf_46 hl (k := 4) rfl rfl (by decide) rfl (fun ls hl => ?_)
              refine lv_goto (tgt := 23) hx hb dX8_orderOf_49 (by decide) ?_
              exact rec23 r42 (x4 + 1) H locs ls h hP hD hS (lv_sub hl [2, 3, 4, 1, 0] rfl)
        exact L23 x2 t_sieve I23 m23 hB23 _ (0 : Int32) (0 : Int32) H locs ls hI23 (Nat.lt_succ_self _) hP hD hS (lv_sub hl [2, 3, 4, 1, 0] rfl)
  exact L10 t_carriers t_reached I10 m10 hB10 _ (0 : Int32) t_sieve_5 H locs ls hI10 (Nat.lt_succ_self _) hP hD hS (lv_sub hl [1, 2, 0] rfl)

set_option maxHeartbeats 4000000 in
set_option maxRecDepth 100000 in
theorem c_X8_orderOf (l : Launch) (G : va_G) (Y : Nat → ClassId) (tF sz : Nat) (h_t : Nat) (h_p1 : Nat) (B_t : Nat → Nat) (B_p1 : Nat → Nat) (t_carriers : Nat → Int32) (t_reached : Nat → Int32) (t_sieve : Nat → Int32) (p1_n : Int32) (p1_cells : Nat → Int32) {K : Int32 → (Nat → Int32) → (Nat → Int32) → (Nat → Int32) → Prop} (h : pX8_orderOf t_carriers t_reached t_sieve p1_n p1_cells K) : Met l yX8_orderOf wsX8_orderOf ({ frames := 4, cells := 0, slots := 0, locals := 100 }) (PcM G Y tF sz (w_X8_orderOf Y h_t h_p1 B_t B_p1 t_carriers t_reached t_sieve p1_n p1_cells) [.ref h_t, .ref h_p1]) (va_Qi (fun (r : Int32) (u : (Nat → Int32) × (Nat → Int32) × (Nat → Int32)) => K r u.1 u.2.1 u.2.2) (fun u t => BM G Y (va_A (w_X8_orderOf Y h_t h_p1 B_t B_p1 t_carriers t_reached t_sieve p1_n p1_cells) sz) (w_X8_orderOf Y h_t h_p1 B_t B_p1 u.1 u.2.1 u.2.2 p1_n p1_cells) t) (va_A (w_X8_orderOf Y h_t h_p1 B_t B_p1 t_carriers t_reached t_sieve p1_n p1_cells) sz)) 0 0 (va_A (w_X8_orderOf Y h_t h_p1 B_t B_p1 t_carriers t_reached t_sieve p1_n p1_cells) sz) := by
  refine Met.ofW (cc := cX8_orderOf) (maxL := 5) (ret := (some .int)) (by decide +kernel) rfl ?_
  intro p e s m args below meth c s₁ B hml hv
  obtain ⟨rfl, hsz, hP, hK, hD0, hE⟩ := hv
  have hts := atoms_spec (ws := wsX8_orderOf) B.pre
  have hown : s.vm.findClass RX8 = some m.cls := findClass_of_methodNamed B.named
  have hlocks := B.notSynchronized
  subst hsz
  have hD := hD0.self (sz := s.heap.size)
  exact wk_X8_orderOf h_t h_p1 B_t B_p1 t_carriers t_reached t_sieve p1_n p1_cells B.exec B.bytes hml hown hts hK hE (fun q h => Or.inr h) (Nat.le_refl _) (Nat.le_refl _) (fun r t_carriers t_reached t_sieve H locs ls pc hP hD hS hk hd => W.iret (v := r) B.exec B.bytes B.returns (fun t ht hW => ⟨⟨r, (t_carriers, t_reached, t_sieve), rfl, hk, by rw [ht]; exact hP, va_K.moved hW.alike hK, hD⟩, hS.F ht⟩) hS.2.2 hd) hP hD h
