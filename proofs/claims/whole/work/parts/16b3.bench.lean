abbrev w_X10_modulus (Y : Nat → ClassId) (h_t : Nat) (B_t : Nat → Nat) (B_t_twisting : Nat → Nat) (t_toldCount : Int32) (t_twisting_modulus : Int32) (t_twisting_values : Nat → Int32) : va_W := [(h_t, .inr (9, [.ref (B_t 0), .ref (B_t 1), .ref (B_t 2), .ref (B_t 3), .ref (B_t 4), .ref (B_t 5), .ref (B_t 6), .ref (B_t 7), .ref (B_t 8), .ref (B_t 9), .ref (B_t 10), .ref (B_t 11), .ref (B_t 12), .ref (B_t 13), .int t_toldCount])), ((B_t 4), .inr (8, [.ref (B_t_twisting 0), .int t_twisting_modulus])), ((B_t_twisting 0), .inl (Y 0, 64, .inl t_twisting_values))]

set_option maxHeartbeats 20000000 in
set_option maxRecDepth 100000 in
theorem wk_X10_modulus {p : Program} {l : Launch} {e : Env} {R : Room} {s : State} {m : MethodId} {args : Array Value} {below : List Frame} {meth : Method} {c : Code} {Q : State → Prop} {G : va_G} {Y : Nat → ClassId} {tF : Nat} {A : Nat → Prop} (h_t : Nat) (B_t : Nat → Nat) (B_t_twisting : Nat → Nat) (t_toldCount : Int32) (t_twisting_modulus : Int32) (t_twisting_values : Nat → Int32) (x1 : Int32) {K : Int32 → Int32 → (Nat → Int32) → Prop} (hx : p.tables.exec = Jvm.exec) (hb : c.code = cX10_modulus) (hml : c.maxLocals = 2) (hown : s.vm.findClass RX10 = some m.cls) (hts : ∀ w ∈ wsX10_modulus, w.before args s = true) (hK : va_K G vwCl (tyL Y) s) (hE : Ev A tF s) (hA : ∀ q, s.heap.size ≤ q → A q) (hRf : 2 ≤ R.frames) (hRl : 43 ≤ R.locals) (hret : ∀ (r : Int32) (t_twisting_modulus : Int32) (t_twisting_values : Nat → Int32) (H : Heap) (locs : List Loc) (ls : Array Slot) (pc : Nat), va_P G vwCl (w_X10_modulus Y h_t B_t B_t_twisting t_toldCount t_twisting_modulus t_twisting_values) H → va_D A (w_X10_modulus Y h_t B_t B_t_twisting t_toldCount t_twisting_modulus t_twisting_values) → va_S A s.heap H locs → zb r → K r t_twisting_modulus t_twisting_values → decode cX10_modulus pc = .ok (.ireturn, 1) → W p l e R s m args below meth c H locs 0 0 Q (F0 m pc ls [.int r])) (hP : va_P G vwCl (w_X10_modulus Y h_t B_t B_t_twisting t_toldCount t_twisting_modulus t_twisting_values) s.heap) (hD : va_D A (w_X10_modulus Y h_t B_t B_t_twisting t_toldCount t_twisting_modulus t_twisting_values)) (h : pX10_modulus t_twisting_modulus t_twisting_values x1 K) : W p l e R s m args below meth c s.heap [] 0 0 Q (entryFrame m ([.ref h_t, .int x1] : List Value).toArray 2) := by
  have inX10 : ∀ w ∈ u_ws RX10 TX10 15, w ∈ wsX10_modulus := by decide +kernel
  have inX9 : ∀ w ∈ u_ws RX9 TX9 2, w ∈ wsX10_modulus := by decide +kernel
  have hf31 := hts (.fieldLink RX10 31 "RackBench" "twisting" "LRackBench$Twist;") (by decide +kernel)
  have hl := lv_entry ([.ref h_t, .int x1]) (n := 2) (Nat.le_of_ble_eq_true rfl)
  rw [lg_entry_eq]
  generalize (lg_sl ([.ref h_t, .int x1]) ++ List.replicate (2 - (lg_sl ([.ref h_t, .int x1])).length) Slot.unset).toArray = ls at hl ⊢
  have hl : lv_has ls 2 [(0, .ref h_t), (1, .int x1)] := hl
  generalize hH0 : s.heap = H at hP ⊢
  have hS : va_S A s.heap H [] := by rw [← hH0]; exact va_S.rf
  clear hH0
  generalize ([] : List Loc) = locs at hS ⊢
  refine lv_iload_n hx hb dX10_modulus_0 rfl (lv_at hl 1 rfl) ?_
  refine lv_iconst (v := 2) hx hb dX10_modulus_1 (by decide) ?_
  obtain ⟨ht, hf⟩ := h
  refine lv_icmp_lt (tgt := 11) hx hb dX10_modulus_2 (by decide) (fun c9 => ?_) (fun c9 => ?_)
  · have h := ht c9
    refine lv_iconst (v := 0) hx hb dX10_modulus_11 (by decide) ?_
    obtain ⟨hz, h⟩ := h
    exact hret (0 : Int32) t_twisting_modulus t_twisting_values H locs ls _ hP hD hS hz h dX10_modulus_12
  · have h := hf c9
    refine lv_iload_n hx hb dX10_modulus_5 rfl (lv_at hl 1 rfl) ?_
    refine lv_bipush (v := 7) hx hb dX10_modulus_6 (by decide) ?_
    obtain ⟨ht, hf⟩ := h
    refine lv_icmp_le (tgt := 13) hx hb dX10_modulus_8 (by decide) (fun c9 => ?_) (fun c9 => ?_)
    · have h := ht c9
      refine lv_aload_n hx hb dX10_modulus_13 rfl (lv_at hl 0 rfl) ?_
      refine va_get (D := G) (ci := 9) (v := .ref (B_t 4)) (C := RX10) (T := TX10) (N := 15) hx hb hts inX10 hown hK hP 0 rfl rfl 4 (by decide) hf31 (fun _ h9 => h9) rfl dX10_modulus_14 ?_
      refine lv_iload_n hx hb dX10_modulus_17 rfl (lv_at hl 1 rfl) ?_
      refine va_putN (D := G) (ci := 8) (v := .int x1) (ty := .int) (C := RX9) (T := TX9) (N := 2) hx hb hts inX9 tyX9 tyX9_ok nmX9 hown hK hP hD hS 1 rfl rfl 1 (by decide) (hE.nest args 1 _ rfl) (fun _ h9 => h9) rfl (by decide +kernel) rfl rfl (Nat.le_of_ble_eq_true rfl) dX10_modulus_18 (fun H locs hP hD hS => ?_)
      have hP : va_P G vwCl (w_X10_modulus Y h_t B_t B_t_twisting t_toldCount x1 t_twisting_values) H := hP
      have hD : va_D A (w_X10_modulus Y h_t B_t B_t_twisting t_toldCount x1 t_twisting_values) := hD
      refine lv_aload_n hx hb dX10_modulus_21 rfl (lv_at hl 0 rfl) ?_
      refine va_get (D := G) (ci := 9) (v := .ref (B_t 4)) (C := RX10) (T := TX10) (N := 15) hx hb hts inX10 hown hK hP 0 rfl rfl 4 (by decide) hf31 (fun _ h9 => h9) rfl dX10_modulus_22 ?_
      refine mc_vV ⟨hx, hb, hml, hown, hts⟩ hK hE hA hP hD hS (c_X9_flatten l G Y tF H.size (B_t 4) B_t_twisting x1 t_twisting_values h) (cwV 0 hts gX10_modulus_X9_flatten rfl rfl rfl (by decide +kernel) ⟨Nat.le_trans (by decide) hRf, Nat.le_trans (by decide) hRl⟩) (fun u => (w_X10_modulus Y h_t B_t B_t_twisting t_toldCount x1 u)) [1, 2] [0] [0, 1, 2] rfl rfl rfl rfl (by decide) (fun _ => rfl) rfl 1 8 rfl rfl rfl rfl hl.1 rfl (Nat.le_of_ble_eq_true rfl) dX10_modulus_25 (fun u H locs h hP hD hS => ?_)
      obtain ⟨t_twisting_values_25, rfl⟩ : ∃ z, z = u := ⟨_, rfl⟩
      try dsimp only at h
      have hP : va_P G vwCl (w_X10_modulus Y h_t B_t B_t_twisting t_toldCount x1 t_twisting_values_25) H := hP
      have hD : va_D A (w_X10_modulus Y h_t B_t B_t_twisting t_toldCount x1 t_twisting_values_25) := hD
      refine lv_iconst (v := 1) hx hb dX10_modulus_28 (by decide) ?_
      obtain ⟨hz, h⟩ := h
      exact hret (1 : Int32) x1 t_twisting_values_25 H locs ls _ hP hD hS hz h dX10_modulus_29
    · have h := hf c9
      refine lv_iconst (v := 0) hx hb dX10_modulus_11 (by decide) ?_
      obtain ⟨hz, h⟩ := h
      exact hret (0 : Int32) t_twisting_modulus t_twisting_values H locs ls _ hP hD hS hz h dX10_modulus_12

set_option maxHeartbeats 20000000 in
set_option maxRecDepth 100000 in
theorem c_X10_modulus (l : Launch) (G : va_G) (Y : Nat → ClassId) (tF sz : Nat) (h_t : Nat) (B_t : Nat → Nat) (B_t_twisting : Nat → Nat) (t_toldCount : Int32) (t_twisting_modulus : Int32) (t_twisting_values : Nat → Int32) (x1 : Int32) {K : Int32 → Int32 → (Nat → Int32) → Prop} (h : pX10_modulus t_twisting_modulus t_twisting_values x1 K) : Met l yX10_modulus wsX10_modulus ({ frames := 2, cells := 0, slots := 0, locals := 43 }) (PcM G Y tF sz (w_X10_modulus Y h_t B_t B_t_twisting t_toldCount t_twisting_modulus t_twisting_values) [.ref h_t, .int x1]) (va_Qi (fun (r : Int32) (u : Int32 × (Nat → Int32)) => K r u.1 u.2) (fun u t => BM G Y (va_A (w_X10_modulus Y h_t B_t B_t_twisting t_toldCount t_twisting_modulus t_twisting_values) sz) (w_X10_modulus Y h_t B_t B_t_twisting t_toldCount u.1 u.2) t) (va_A (w_X10_modulus Y h_t B_t B_t_twisting t_toldCount t_twisting_modulus t_twisting_values) sz)) 0 0 (va_A (w_X10_modulus Y h_t B_t B_t_twisting t_toldCount t_twisting_modulus t_twisting_values) sz) := by
  refine Met.ofW (cc := cX10_modulus) (maxL := 2) (ret := (some .boolean)) (by decide +kernel) rfl ?_
  intro p e s m args below meth c s₁ B hml hv
  obtain ⟨rfl, hsz, hP, hK, hD0, hE⟩ := hv
  have hts := atoms_spec (ws := wsX10_modulus) B.pre
  have hown : s.vm.findClass RX10 = some m.cls := findClass_of_methodNamed B.named
  have hlocks := B.notSynchronized
  subst hsz
  have hD := hD0.self (sz := s.heap.size)
  exact wk_X10_modulus h_t B_t B_t_twisting t_toldCount t_twisting_modulus t_twisting_values x1 B.exec B.bytes hml hown hts hK hE (fun q h => Or.inr h) (Nat.le_refl _) (Nat.le_refl _) (fun r t_twisting_modulus t_twisting_values H locs ls pc hP hD hS hz hk hd => W.zret (v := r) B.exec B.bytes B.returns hz.n (fun t ht hW => ⟨⟨r, (t_twisting_modulus, t_twisting_values), rfl, hk, by rw [ht]; exact hP, va_K.moved hW.alike hK, hD⟩, hS.F ht⟩) hS.2.2 hd) hP hD h

abbrev w_X10_twist (Y : Nat → ClassId) (h_t : Nat) (B_t : Nat → Nat) (B_t_current : Nat → Nat) (B_t_twisting : Nat → Nat) (t_toldCount : Int32) (t_current_n : Int32) (t_twisting_modulus : Int32) (t_twisting_values : Nat → Int32) : va_W := [(h_t, .inr (9, [.ref (B_t 0), .ref (B_t 1), .ref (B_t 2), .ref (B_t 3), .ref (B_t 4), .ref (B_t 5), .ref (B_t 6), .ref (B_t 7), .ref (B_t 8), .ref (B_t 9), .ref (B_t 10), .ref (B_t 11), .ref (B_t 12), .ref (B_t 13), .int t_toldCount])), ((B_t 0), .inr (6, [.ref (B_t_current 0), .int t_current_n])), ((B_t 4), .inr (8, [.ref (B_t_twisting 0), .int t_twisting_modulus])), ((B_t_twisting 0), .inl (Y 0, 64, .inl t_twisting_values))]

set_option maxHeartbeats 20000000 in
set_option maxRecDepth 100000 in
theorem wk_X10_twist {p : Program} {l : Launch} {e : Env} {R : Room} {s : State} {m : MethodId} {args : Array Value} {below : List Frame} {meth : Method} {c : Code} {Q : State → Prop} {G : va_G} {Y : Nat → ClassId} {tF : Nat} {A : Nat → Prop} (h_t : Nat) (B_t : Nat → Nat) (B_t_current : Nat → Nat) (B_t_twisting : Nat → Nat) (t_toldCount : Int32) (t_current_n : Int32) (t_twisting_modulus : Int32) (t_twisting_values : Nat → Int32) (x1 : Int32) (x2 : Int32) (x3 : Int32) {K : Int32 → (Nat → Int32) → Prop} (hx : p.tables.exec = Jvm.exec) (hb : c.code = cX10_twist) (hml : c.maxLocals = 4) (hown : s.vm.findClass RX10 = some m.cls) (hts : ∀ w ∈ wsX10_twist, w.before args s = true) (hK : va_K G vwCl (tyL Y) s) (hE : Ev A tF s) (hA : ∀ q, s.heap.size ≤ q → A q) (hRf : 1 ≤ R.frames) (hRl : 23 ≤ R.locals) (hret : ∀ (r : Int32) (t_twisting_values : Nat → Int32) (H : Heap) (locs : List Loc) (ls : Array Slot) (pc : Nat), va_P G vwCl (w_X10_twist Y h_t B_t B_t_current B_t_twisting t_toldCount t_current_n t_twisting_modulus t_twisting_values) H → va_D A (w_X10_twist Y h_t B_t B_t_current B_t_twisting t_toldCount t_current_n t_twisting_modulus t_twisting_values) → va_S A s.heap H locs → zb r → K r t_twisting_values → decode cX10_twist pc = .ok (.ireturn, 1) → W p l e R s m args below meth c H locs 0 0 Q (F0 m pc ls [.int r])) (hP : va_P G vwCl (w_X10_twist Y h_t B_t B_t_current B_t_twisting t_toldCount t_current_n t_twisting_modulus t_twisting_values) s.heap) (hD : va_D A (w_X10_twist Y h_t B_t B_t_current B_t_twisting t_toldCount t_current_n t_twisting_modulus t_twisting_values)) (h : pX10_twist t_current_n t_twisting_modulus t_twisting_values x1 x2 x3 K) : W p l e R s m args below meth c s.heap [] 0 0 Q (entryFrame m ([.ref h_t, .int x1, .int x2, .int x3] : List Value).toArray 4) := by
  have inX10 : ∀ w ∈ u_ws RX10 TX10 15, w ∈ wsX10_twist := by decide +kernel
  have inX9 : ∀ w ∈ u_ws RX9 TX9 2, w ∈ wsX10_twist := by decide +kernel
  have hf14 := hts (.fieldLink RX10 14 "RackBench" "current" "LRackBench$Table;") (by decide +kernel)
  have hf31 := hts (.fieldLink RX10 31 "RackBench" "twisting" "LRackBench$Twist;") (by decide +kernel)
  have hl := lv_entry ([.ref h_t, .int x1, .int x2, .int x3]) (n := 4) (Nat.le_of_ble_eq_true rfl)
  rw [lg_entry_eq]
  generalize (lg_sl ([.ref h_t, .int x1, .int x2, .int x3]) ++ List.replicate (4 - (lg_sl ([.ref h_t, .int x1, .int x2, .int x3])).length) Slot.unset).toArray = ls at hl ⊢
  have hl : lv_has ls 4 [(0, .ref h_t), (1, .int x1), (2, .int x2), (3, .int x3)] := hl
  generalize hH0 : s.heap = H at hP ⊢
  have hS : va_S A s.heap H [] := by rw [← hH0]; exact va_S.rf
  clear hH0
  generalize ([] : List Loc) = locs at hS ⊢
  refine lv_aload_n hx hb dX10_twist_0 rfl (lv_at hl 0 rfl) ?_
  refine va_get (D := G) (ci := 9) (v := .ref (B_t 0)) (C := RX10) (T := TX10) (N := 15) hx hb hts inX10 hown hK hP 0 rfl rfl 0 (by decide) hf14 (fun _ h9 => h9) rfl dX10_twist_1 ?_
  refine lv_iload_n hx hb dX10_twist_4 rfl (lv_at hl 1 rfl) ?_
  refine mc_iV ⟨hx, hb, hml, hown, hts⟩ hK hE hA hP hD hS (c_X7_has l G Y tF H.size (B_t 0) B_t_current t_current_n x1 h) (cwV 1 hts gX10_twist_X7_has rfl rfl rfl (by decide +kernel) ⟨Nat.le_trans (by decide) hRf, Nat.le_trans (by decide) hRl⟩) (fun u => (w_X10_twist Y h_t B_t B_t_current B_t_twisting t_toldCount t_current_n t_twisting_modulus t_twisting_values)) [1] [0, 2, 3] [0, 3, 1, 2] rfl rfl rfl rfl (by decide) (fun _ => rfl) rfl 1 6 rfl rfl rfl rfl hl.1 rfl (Nat.le_of_ble_eq_true rfl) dX10_twist_5 (fun r5 u H locs h hP hD hS => ?_)
  try dsimp only at h
  have hP : va_P G vwCl (w_X10_twist Y h_t B_t B_t_current B_t_twisting t_toldCount t_current_n t_twisting_modulus t_twisting_values) H := hP
  have hD : va_D A (w_X10_twist Y h_t B_t B_t_current B_t_twisting t_toldCount t_current_n t_twisting_modulus t_twisting_values) := hD
  obtain ⟨ht, hf⟩ := h
  refine lv_if_eq (tgt := 37) hx hb dX10_twist_8 (by decide) (fun c9 => ?_) (fun c9 => ?_)
  · have h := ht c9
    refine lv_iconst (v := 0) hx hb dX10_twist_37 (by decide) ?_
    obtain ⟨hz, h⟩ := h
    exact hret (0 : Int32) t_twisting_values H locs ls _ hP hD hS hz h dX10_twist_38
  · have h := hf c9
    refine lv_aload_n hx hb dX10_twist_11 rfl (lv_at hl 0 rfl) ?_
    refine va_get (D := G) (ci := 9) (v := .ref (B_t 0)) (C := RX10) (T := TX10) (N := 15) hx hb hts inX10 hown hK hP 0 rfl rfl 0 (by decide) hf14 (fun _ h9 => h9) rfl dX10_twist_12 ?_
    refine lv_iload_n hx hb dX10_twist_15 rfl (lv_at hl 2 rfl) ?_
    refine mc_iV ⟨hx, hb, hml, hown, hts⟩ hK hE hA hP hD hS (c_X7_has l G Y tF H.size (B_t 0) B_t_current t_current_n x2 h) (cwV 1 hts gX10_twist_X7_has rfl rfl rfl (by decide +kernel) ⟨Nat.le_trans (by decide) hRf, Nat.le_trans (by decide) hRl⟩) (fun u => (w_X10_twist Y h_t B_t B_t_current B_t_twisting t_toldCount t_current_n t_twisting_modulus t_twisting_values)) [1] [0, 2, 3] [0, 3, 1, 2] rfl rfl rfl rfl (by decide) (fun _ => rfl) rfl 1 6 rfl rfl rfl rfl hl.1 rfl (Nat.le_of_ble_eq_true rfl) dX10_twist_16 (fun r16 u H locs h hP hD hS => ?_)
    try dsimp only at h
    have hP : va_P G vwCl (w_X10_twist Y h_t B_t B_t_current B_t_twisting t_toldCount t_current_n t_twisting_modulus t_twisting_values) H := hP
    have hD : va_D A (w_X10_twist Y h_t B_t B_t_current B_t_twisting t_toldCount t_current_n t_twisting_modulus t_twisting_values) := hD
    obtain ⟨ht, hf⟩ := h
    refine lv_if_eq (tgt := 37) hx hb dX10_twist_19 (by decide) (fun c9 => ?_) (fun c9 => ?_)
    · have h := ht c9
      refine lv_iconst (v := 0) hx hb dX10_twist_37 (by decide) ?_
      obtain ⟨hz, h⟩ := h
      exact hret (0 : Int32) t_twisting_values H locs ls _ hP hD hS hz h dX10_twist_38
    · have h := hf c9
      refine lv_iload_n hx hb dX10_twist_22 rfl (lv_at hl 3 rfl) ?_
      obtain ⟨ht, hf⟩ := h
      refine lv_if_lt (tgt := 37) hx hb dX10_twist_23 (by decide) (fun c9 => ?_) (fun c9 => ?_)
      · have h := ht c9
        refine lv_iconst (v := 0) hx hb dX10_twist_37 (by decide) ?_
        obtain ⟨hz, h⟩ := h
        exact hret (0 : Int32) t_twisting_values H locs ls _ hP hD hS hz h dX10_twist_38
      · have h := hf c9
        refine lv_iload_n hx hb dX10_twist_26 rfl (lv_at hl 3 rfl) ?_
        refine lv_aload_n hx hb dX10_twist_27 rfl (lv_at hl 0 rfl) ?_
        refine va_get (D := G) (ci := 9) (v := .ref (B_t 4)) (C := RX10) (T := TX10) (N := 15) hx hb hts inX10 hown hK hP 0 rfl rfl 4 (by decide) hf31 (fun _ h9 => h9) rfl dX10_twist_28 ?_
        refine va_getN (D := G) (ci := 8) (v := .int t_twisting_modulus) (C := RX9) (T := TX9) (N := 2) hx hb hts inX9 hown hK hP 2 rfl rfl 1 (by decide) (hE.nest args 1 _ rfl) (fun _ h9 => h9) rfl dX10_twist_31 ?_
        obtain ⟨ht, hf⟩ := h
        refine lv_icmp_lt (tgt := 39) hx hb dX10_twist_34 (by decide) (fun c9 => ?_) (fun c9 => ?_)
        · have h := ht c9
          refine lv_aload_n hx hb dX10_twist_39 rfl (lv_at hl 0 rfl) ?_
          refine va_get (D := G) (ci := 9) (v := .ref (B_t 4)) (C := RX10) (T := TX10) (N := 15) hx hb hts inX10 hown hK hP 0 rfl rfl 4 (by decide) hf31 (fun _ h9 => h9) rfl dX10_twist_40 ?_
          refine lv_iload_n hx hb dX10_twist_43 rfl (lv_at hl 1 rfl) ?_
          refine lv_iload_n hx hb dX10_twist_44 rfl (lv_at hl 2 rfl) ?_
          refine lv_iload_n hx hb dX10_twist_45 rfl (lv_at hl 3 rfl) ?_
          refine mc_vV ⟨hx, hb, hml, hown, hts⟩ hK hE hA hP hD hS (c_X9_put l G Y tF H.size (B_t 4) B_t_twisting t_twisting_modulus t_twisting_values x1 x2 x3 h) (cwV 3 hts gX10_twist_X9_put rfl rfl rfl (by decide +kernel) ⟨Nat.le_trans (by decide) hRf, Nat.le_trans (by decide) hRl⟩) (fun u => (w_X10_twist Y h_t B_t B_t_current B_t_twisting t_toldCount t_current_n t_twisting_modulus u)) [2, 3] [0, 1] [0, 1, 2, 3] rfl rfl rfl rfl (by decide) (fun _ => rfl) rfl 2 8 rfl rfl rfl rfl hl.1 rfl (Nat.le_of_ble_eq_true rfl) dX10_twist_46 (fun u H locs h hP hD hS => ?_)
          obtain ⟨t_twisting_values_46, rfl⟩ : ∃ z, z = u := ⟨_, rfl⟩
          try dsimp only at h
          have hP : va_P G vwCl (w_X10_twist Y h_t B_t B_t_current B_t_twisting t_toldCount t_current_n t_twisting_modulus t_twisting_values_46) H := hP
          have hD : va_D A (w_X10_twist Y h_t B_t B_t_current B_t_twisting t_toldCount t_current_n t_twisting_modulus t_twisting_values_46) := hD
          refine lv_iconst (v := 1) hx hb dX10_twist_49 (by decide) ?_
          obtain ⟨hz, h⟩ := h
          exact hret (1 : Int32) t_twisting_values_46 H locs ls _ hP hD hS hz h dX10_twist_50
        · have h := hf c9
          refine lv_iconst (v := 0) hx hb dX10_twist_37 (by decide) ?_
          obtain ⟨hz, h⟩ := h
          exact hret (0 : Int32) t_twisting_values H locs ls _ hP hD hS hz h dX10_twist_38

set_option maxHeartbeats 20000000 in
set_option maxRecDepth 100000 in
theorem c_X10_twist (l : Launch) (G : va_G) (Y : Nat → ClassId) (tF sz : Nat) (h_t : Nat) (B_t : Nat → Nat) (B_t_current : Nat → Nat) (B_t_twisting : Nat → Nat) (t_toldCount : Int32) (t_current_n : Int32) (t_twisting_modulus : Int32) (t_twisting_values : Nat → Int32) (x1 : Int32) (x2 : Int32) (x3 : Int32) {K : Int32 → (Nat → Int32) → Prop} (h : pX10_twist t_current_n t_twisting_modulus t_twisting_values x1 x2 x3 K) : Met l yX10_twist wsX10_twist ({ frames := 1, cells := 0, slots := 0, locals := 23 }) (PcM G Y tF sz (w_X10_twist Y h_t B_t B_t_current B_t_twisting t_toldCount t_current_n t_twisting_modulus t_twisting_values) [.ref h_t, .int x1, .int x2, .int x3]) (va_Qi (fun (r : Int32) (u : (Nat → Int32)) => K r u) (fun u t => BM G Y (va_A (w_X10_twist Y h_t B_t B_t_current B_t_twisting t_toldCount t_current_n t_twisting_modulus t_twisting_values) sz) (w_X10_twist Y h_t B_t B_t_current B_t_twisting t_toldCount t_current_n t_twisting_modulus u) t) (va_A (w_X10_twist Y h_t B_t B_t_current B_t_twisting t_toldCount t_current_n t_twisting_modulus t_twisting_values) sz)) 0 0 (va_A (w_X10_twist Y h_t B_t B_t_current B_t_twisting t_toldCount t_current_n t_twisting_modulus t_twisting_values) sz) := by
  refine Met.ofW (cc := cX10_twist) (maxL := 4) (ret := (some .boolean)) (by decide +kernel) rfl ?_
  intro p e s m args below meth c s₁ B hml hv
  obtain ⟨rfl, hsz, hP, hK, hD0, hE⟩ := hv
  have hts := atoms_spec (ws := wsX10_twist) B.pre
  have hown : s.vm.findClass RX10 = some m.cls := findClass_of_methodNamed B.named
  have hlocks := B.notSynchronized
  subst hsz
  have hD := hD0.self (sz := s.heap.size)
  exact wk_X10_twist h_t B_t B_t_current B_t_twisting t_toldCount t_current_n t_twisting_modulus t_twisting_values x1 x2 x3 B.exec B.bytes hml hown hts hK hE (fun q h => Or.inr h) (Nat.le_refl _) (Nat.le_refl _) (fun r t_twisting_values H locs ls pc hP hD hS hz hk hd => W.zret (v := r) B.exec B.bytes B.returns hz.n (fun t ht hW => ⟨⟨r, t_twisting_values, rfl, hk, by rw [ht]; exact hP, va_K.moved hW.alike hK, hD⟩, hS.F ht⟩) hS.2.2 hd) hP hD h

abbrev w_X10_twisted (Y : Nat → ClassId) (h_t : Nat) (B_t : Nat → Nat) (B_t_current : Nat → Nat) (B_t_twisting : Nat → Nat) (t_toldCount : Int32) (t_current_n : Int32) (t_twisting_modulus : Int32) (t_twisting_values : Nat → Int32) : va_W := [(h_t, .inr (9, [.ref (B_t 0), .ref (B_t 1), .ref (B_t 2), .ref (B_t 3), .ref (B_t 4), .ref (B_t 5), .ref (B_t 6), .ref (B_t 7), .ref (B_t 8), .ref (B_t 9), .ref (B_t 10), .ref (B_t 11), .ref (B_t 12), .ref (B_t 13), .int t_toldCount])), ((B_t 0), .inr (6, [.ref (B_t_current 0), .int t_current_n])), ((B_t 4), .inr (8, [.ref (B_t_twisting 0), .int t_twisting_modulus])), ((B_t_twisting 0), .inl (Y 0, 64, .inl t_twisting_values))]

set_option maxHeartbeats 20000000 in
set_option maxRecDepth 100000 in
theorem wk_X10_twisted {p : Program} {l : Launch} {e : Env} {R : Room} {s : State} {m : MethodId} {args : Array Value} {below : List Frame} {meth : Method} {c : Code} {Q : State → Prop} {G : va_G} {Y : Nat → ClassId} {tF : Nat} {A : Nat → Prop} (h_t : Nat) (B_t : Nat → Nat) (B_t_current : Nat → Nat) (B_t_twisting : Nat → Nat) (t_toldCount : Int32) (t_current_n : Int32) (t_twisting_modulus : Int32) (t_twisting_values : Nat → Int32) (x1 : Int32) (x2 : Int32) {K : Int32 → Prop} (hx : p.tables.exec = Jvm.exec) (hb : c.code = cX10_twisted) (hml : c.maxLocals = 3) (hown : s.vm.findClass RX10 = some m.cls) (hts : ∀ w ∈ wsX10_twisted, w.before args s = true) (hK : va_K G vwCl (tyL Y) s) (hE : Ev A tF s) (hA : ∀ q, s.heap.size ≤ q → A q) (hRf : 1 ≤ R.frames) (hRl : 22 ≤ R.locals) (hret : ∀ (r : Int32)  (H : Heap) (locs : List Loc) (ls : Array Slot) (pc : Nat), va_P G vwCl (w_X10_twisted Y h_t B_t B_t_current B_t_twisting t_toldCount t_current_n t_twisting_modulus t_twisting_values) H → va_D A (w_X10_twisted Y h_t B_t B_t_current B_t_twisting t_toldCount t_current_n t_twisting_modulus t_twisting_values) → va_S A s.heap H locs → K r → decode cX10_twisted pc = .ok (.ireturn, 1) → W p l e R s m args below meth c H locs 0 0 Q (F0 m pc ls [.int r])) (hP : va_P G vwCl (w_X10_twisted Y h_t B_t B_t_current B_t_twisting t_toldCount t_current_n t_twisting_modulus t_twisting_values) s.heap) (hD : va_D A (w_X10_twisted Y h_t B_t B_t_current B_t_twisting t_toldCount t_current_n t_twisting_modulus t_twisting_values)) (h : pX10_twisted t_current_n t_twisting_values x1 x2 K) : W p l e R s m args below meth c s.heap [] 0 0 Q (entryFrame m ([.ref h_t, .int x1, .int x2] : List Value).toArray 3) := by
  have inX10 : ∀ w ∈ u_ws RX10 TX10 15, w ∈ wsX10_twisted := by decide +kernel
  have hf14 := hts (.fieldLink RX10 14 "RackBench" "current" "LRackBench$Table;") (by decide +kernel)
  have hf31 := hts (.fieldLink RX10 31 "RackBench" "twisting" "LRackBench$Twist;") (by decide +kernel)
  have hl := lv_entry ([.ref h_t, .int x1, .int x2]) (n := 3) (Nat.le_of_ble_eq_true rfl)
  rw [lg_entry_eq]
  generalize (lg_sl ([.ref h_t, .int x1, .int x2]) ++ List.replicate (3 - (lg_sl ([.ref h_t, .int x1, .int x2])).length) Slot.unset).toArray = ls at hl ⊢
  have hl : lv_has ls 3 [(0, .ref h_t), (1, .int x1), (2, .int x2)] := hl
  generalize hH0 : s.heap = H at hP ⊢
  have hS : va_S A s.heap H [] := by rw [← hH0]; exact va_S.rf
  clear hH0
  generalize ([] : List Loc) = locs at hS ⊢
  have J34 : ∀  (H : Heap) (locs : List Loc) (ls : Array Slot), pX10_twisted_34 t_current_n t_twisting_values K → va_P G vwCl (w_X10_twisted Y h_t B_t B_t_current B_t_twisting t_toldCount t_current_n t_twisting_modulus t_twisting_values) H → va_D A (w_X10_twisted Y h_t B_t B_t_current B_t_twisting t_toldCount t_current_n t_twisting_modulus t_twisting_values) → va_S A s.heap H locs → lv_has ls 3 [] → W p l e R s m args below meth c H locs 0 0 Q (F0 m 34 ls []) := by
    intro  H locs ls h hP hD hS hl
    refine lv_iconst (v := -1) hx hb dX10_twisted_34 (by decide) ?_
    exact hret (-1 : Int32)  H locs ls _ hP hD hS h dX10_twisted_35
  refine lv_aload_n hx hb dX10_twisted_0 rfl (lv_at hl 0 rfl) ?_
  refine va_get (D := G) (ci := 9) (v := .ref (B_t 0)) (C := RX10) (T := TX10) (N := 15) hx hb hts inX10 hown hK hP 0 rfl rfl 0 (by decide) hf14 (fun _ h9 => h9) rfl dX10_twisted_1 ?_
  refine lv_iload_n hx hb dX10_twisted_4 rfl (lv_at hl 1 rfl) ?_
  refine mc_iV ⟨hx, hb, hml, hown, hts⟩ hK hE hA hP hD hS (c_X7_has l G Y tF H.size (B_t 0) B_t_current t_current_n x1 h) (cwV 1 hts gX10_twisted_X7_has rfl rfl rfl (by decide +kernel) ⟨Nat.le_trans (by decide) hRf, Nat.le_trans (by decide) hRl⟩) (fun u => (w_X10_twisted Y h_t B_t B_t_current B_t_twisting t_toldCount t_current_n t_twisting_modulus t_twisting_values)) [1] [0, 2, 3] [0, 3, 1, 2] rfl rfl rfl rfl (by decide) (fun _ => rfl) rfl 1 6 rfl rfl rfl rfl hl.1 rfl (Nat.le_of_ble_eq_true rfl) dX10_twisted_5 (fun r5 u H locs h hP hD hS => ?_)
  try dsimp only at h
  have hP : va_P G vwCl (w_X10_twisted Y h_t B_t B_t_current B_t_twisting t_toldCount t_current_n t_twisting_modulus t_twisting_values) H := hP
  have hD : va_D A (w_X10_twisted Y h_t B_t B_t_current B_t_twisting t_toldCount t_current_n t_twisting_modulus t_twisting_values) := hD
  obtain ⟨ht, hf⟩ := h
  refine lv_if_eq (tgt := 34) hx hb dX10_twisted_8 (by decide) (fun c9 => ?_) (fun c9 => ?_)
  · have h := ht c9
    exact J34  H locs ls h hP hD hS (lv_sub hl [] rfl)
  · have h := hf c9
    refine lv_aload_n hx hb dX10_twisted_11 rfl (lv_at hl 0 rfl) ?_
    refine va_get (D := G) (ci := 9) (v := .ref (B_t 0)) (C := RX10) (T := TX10) (N := 15) hx hb hts inX10 hown hK hP 0 rfl rfl 0 (by decide) hf14 (fun _ h9 => h9) rfl dX10_twisted_12 ?_
    refine lv_iload_n hx hb dX10_twisted_15 rfl (lv_at hl 2 rfl) ?_
    refine mc_iV ⟨hx, hb, hml, hown, hts⟩ hK hE hA hP hD hS (c_X7_has l G Y tF H.size (B_t 0) B_t_current t_current_n x2 h) (cwV 1 hts gX10_twisted_X7_has rfl rfl rfl (by decide +kernel) ⟨Nat.le_trans (by decide) hRf, Nat.le_trans (by decide) hRl⟩) (fun u => (w_X10_twisted Y h_t B_t B_t_current B_t_twisting t_toldCount t_current_n t_twisting_modulus t_twisting_values)) [1] [0, 2, 3] [0, 3, 1, 2] rfl rfl rfl rfl (by decide) (fun _ => rfl) rfl 1 6 rfl rfl rfl rfl hl.1 rfl (Nat.le_of_ble_eq_true rfl) dX10_twisted_16 (fun r16 u H locs h hP hD hS => ?_)
    try dsimp only at h
    have hP : va_P G vwCl (w_X10_twisted Y h_t B_t B_t_current B_t_twisting t_toldCount t_current_n t_twisting_modulus t_twisting_values) H := hP
    have hD : va_D A (w_X10_twisted Y h_t B_t B_t_current B_t_twisting t_toldCount t_current_n t_twisting_modulus t_twisting_values) := hD
    obtain ⟨ht, hf⟩ := h
    refine lv_if_eq (tgt := 34) hx hb dX10_twisted_19 (by decide) (fun c9 => ?_) (fun c9 => ?_)
    · have h := ht c9
      exact J34  H locs ls h hP hD hS (lv_sub hl [] rfl)
    · have h := hf c9
      refine lv_aload_n hx hb dX10_twisted_22 rfl (lv_at hl 0 rfl) ?_
      refine va_get (D := G) (ci := 9) (v := .ref (B_t 4)) (C := RX10) (T := TX10) (N := 15) hx hb hts inX10 hown hK hP 0 rfl rfl 4 (by decide) hf31 (fun _ h9 => h9) rfl dX10_twisted_23 ?_
      refine lv_iload_n hx hb dX10_twisted_26 rfl (lv_at hl 1 rfl) ?_
      refine lv_iload_n hx hb dX10_twisted_27 rfl (lv_at hl 2 rfl) ?_
      refine mc_iV ⟨hx, hb, hml, hown, hts⟩ hK hE hA hP hD hS (c_X9_value l G Y tF H.size (B_t 4) B_t_twisting t_twisting_modulus t_twisting_values x1 x2 h) (cwV 2 hts gX10_twisted_X9_value rfl rfl rfl (by decide +kernel) ⟨Nat.le_trans (by decide) hRf, Nat.le_trans (by decide) hRl⟩) (fun u => (w_X10_twisted Y h_t B_t B_t_current B_t_twisting t_toldCount t_current_n t_twisting_modulus t_twisting_values)) [2, 3] [0, 1] [0, 1, 2, 3] rfl rfl rfl rfl (by decide) (fun _ => rfl) rfl 2 8 rfl rfl rfl rfl hl.1 rfl (Nat.le_of_ble_eq_true rfl) dX10_twisted_28 (fun r28 u H locs h hP hD hS => ?_)
      try dsimp only at h
      have hP : va_P G vwCl (w_X10_twisted Y h_t B_t B_t_current B_t_twisting t_toldCount t_current_n t_twisting_modulus t_twisting_values) H := hP
      have hD : va_D A (w_X10_twisted Y h_t B_t B_t_current B_t_twisting t_toldCount t_current_n t_twisting_modulus t_twisting_values) := hD
      refine lv_goto (tgt := 35) hx hb dX10_twisted_31 (by decide) ?_
      exact hret r28  H locs ls _ hP hD hS h dX10_twisted_35

set_option maxHeartbeats 20000000 in
set_option maxRecDepth 100000 in
theorem c_X10_twisted (l : Launch) (G : va_G) (Y : Nat → ClassId) (tF sz : Nat) (h_t : Nat) (B_t : Nat → Nat) (B_t_current : Nat → Nat) (B_t_twisting : Nat → Nat) (t_toldCount : Int32) (t_current_n : Int32) (t_twisting_modulus : Int32) (t_twisting_values : Nat → Int32) (x1 : Int32) (x2 : Int32) {K : Int32 → Prop} (h : pX10_twisted t_current_n t_twisting_values x1 x2 K) : Met l yX10_twisted wsX10_twisted ({ frames := 1, cells := 0, slots := 0, locals := 22 }) (PcM G Y tF sz (w_X10_twisted Y h_t B_t B_t_current B_t_twisting t_toldCount t_current_n t_twisting_modulus t_twisting_values) [.ref h_t, .int x1, .int x2]) (va_Qi (fun (r : Int32) (u : Unit) => K r ) (fun u t => BM G Y (va_A (w_X10_twisted Y h_t B_t B_t_current B_t_twisting t_toldCount t_current_n t_twisting_modulus t_twisting_values) sz) (w_X10_twisted Y h_t B_t B_t_current B_t_twisting t_toldCount t_current_n t_twisting_modulus t_twisting_values) t) (va_A (w_X10_twisted Y h_t B_t B_t_current B_t_twisting t_toldCount t_current_n t_twisting_modulus t_twisting_values) sz)) 0 0 (va_A (w_X10_twisted Y h_t B_t B_t_current B_t_twisting t_toldCount t_current_n t_twisting_modulus t_twisting_values) sz) := by
  refine Met.ofW (cc := cX10_twisted) (maxL := 3) (ret := (some .int)) (by decide +kernel) rfl ?_
  intro p e s m args below meth c s₁ B hml hv
  obtain ⟨rfl, hsz, hP, hK, hD0, hE⟩ := hv
  have hts := atoms_spec (ws := wsX10_twisted) B.pre
  have hown : s.vm.findClass RX10 = some m.cls := findClass_of_methodNamed B.named
  have hlocks := B.notSynchronized
  subst hsz
  have hD := hD0.self (sz := s.heap.size)
  exact wk_X10_twisted h_t B_t B_t_current B_t_twisting t_toldCount t_current_n t_twisting_modulus t_twisting_values x1 x2 B.exec B.bytes hml hown hts hK hE (fun q h => Or.inr h) (Nat.le_refl _) (Nat.le_refl _) (fun r  H locs ls pc hP hD hS hk hd => W.iret (v := r) B.exec B.bytes B.returns (fun t ht hW => ⟨⟨r, (), rfl, hk, by rw [ht]; exact hP, va_K.moved hW.alike hK, hD⟩, hS.F ht⟩) hS.2.2 hd) hP hD h

abbrev w_X10_closed (Y : Nat → ClassId) (h_t : Nat) (B_t : Nat → Nat) (B_t_current : Nat → Nat) (B_t_twisting : Nat → Nat) (t_toldCount : Int32) (t_current_n : Int32) (t_current_cells : Nat → Int32) (t_told : Nat → Int32) (t_twisting_modulus : Int32) (t_twisting_values : Nat → Int32) : va_W := [(h_t, .inr (9, [.ref (B_t 0), .ref (B_t 1), .ref (B_t 2), .ref (B_t 3), .ref (B_t 4), .ref (B_t 5), .ref (B_t 6), .ref (B_t 7), .ref (B_t 8), .ref (B_t 9), .ref (B_t 10), .ref (B_t 11), .ref (B_t 12), .ref (B_t 13), .int t_toldCount])), ((B_t 0), .inr (6, [.ref (B_t_current 0), .int t_current_n])), ((B_t_current 0), .inl (Y 0, 64, .inl t_current_cells)), ((B_t 13), .inl (Y 0, 8, .inl t_told)), ((B_t 4), .inr (8, [.ref (B_t_twisting 0), .int t_twisting_modulus])), ((B_t_twisting 0), .inl (Y 0, 64, .inl t_twisting_values))]

set_option maxHeartbeats 20000000 in
set_option maxRecDepth 100000 in
theorem wk_X10_closed {p : Program} {l : Launch} {e : Env} {R : Room} {s : State} {m : MethodId} {args : Array Value} {below : List Frame} {meth : Method} {c : Code} {Q : State → Prop} {G : va_G} {Y : Nat → ClassId} {tF : Nat} {A : Nat → Prop} (h_t : Nat) (B_t : Nat → Nat) (B_t_current : Nat → Nat) (B_t_twisting : Nat → Nat) (t_toldCount : Int32) (t_current_n : Int32) (t_current_cells : Nat → Int32) (t_told : Nat → Int32) (t_twisting_modulus : Int32) (t_twisting_values : Nat → Int32) {K : Int32 → Int32 → (Nat → Int32) → Prop} (hx : p.tables.exec = Jvm.exec) (hb : c.code = cX10_closed) (hml : c.maxLocals = 2) (hown : s.vm.findClass RX10 = some m.cls) (hts : ∀ w ∈ wsX10_closed, w.before args s = true) (hK : va_K G vwCl (tyL Y) s) (hE : Ev A tF s) (hA : ∀ q, s.heap.size ≤ q → A q) (hRf : 3 ≤ R.frames) (hRl : 66 ≤ R.locals) (hret : ∀ (r : Int32) (t_toldCount : Int32) (t_told : Nat → Int32) (H : Heap) (locs : List Loc) (ls : Array Slot) (pc : Nat), va_P G vwCl (w_X10_closed Y h_t B_t B_t_current B_t_twisting t_toldCount t_current_n t_current_cells t_told t_twisting_modulus t_twisting_values) H → va_D A (w_X10_closed Y h_t B_t B_t_current B_t_twisting t_toldCount t_current_n t_current_cells t_told t_twisting_modulus t_twisting_values) → va_S A s.heap H locs → K r t_toldCount t_told → decode cX10_closed pc = .ok (.ireturn, 1) → W p l e R s m args below meth c H locs 0 0 Q (F0 m pc ls [.int r])) (hP : va_P G vwCl (w_X10_closed Y h_t B_t B_t_current B_t_twisting t_toldCount t_current_n t_current_cells t_told t_twisting_modulus t_twisting_values) s.heap) (hD : va_D A (w_X10_closed Y h_t B_t B_t_current B_t_twisting t_toldCount t_current_n t_current_cells t_told t_twisting_modulus t_twisting_values)) (h : pX10_closed t_toldCount t_current_n t_current_cells t_told t_twisting_modulus t_twisting_values K) : W p l e R s m args below meth c s.heap [] 0 0 Q (entryFrame m ([.ref h_t] : List Value).toArray 2) := by
  have inX10 : ∀ w ∈ u_ws RX10 TX10 15, w ∈ wsX10_closed := by decide +kernel
  have hf14 := hts (.fieldLink RX10 14 "RackBench" "current" "LRackBench$Table;") (by decide +kernel)
  have hf31 := hts (.fieldLink RX10 31 "RackBench" "twisting" "LRackBench$Twist;") (by decide +kernel)
  have hl := lv_entry ([.ref h_t]) (n := 2) (Nat.le_of_ble_eq_true rfl)
  rw [lg_entry_eq]
  generalize (lg_sl ([.ref h_t]) ++ List.replicate (2 - (lg_sl ([.ref h_t])).length) Slot.unset).toArray = ls at hl ⊢
  have hl : lv_has ls 2 [(0, .ref h_t)] := hl
  generalize hH0 : s.heap = H at hP ⊢
  have hS : va_S A s.heap H [] := by rw [← hH0]; exact va_S.rf
  clear hH0
  generalize ([] : List Loc) = locs at hS ⊢
  refine lv_aload_n hx hb dX10_closed_0 rfl (lv_at hl 0 rfl) ?_
  refine va_get (D := G) (ci := 9) (v := .ref (B_t 0)) (C := RX10) (T := TX10) (N := 15) hx hb hts inX10 hown hK hP 0 rfl rfl 0 (by decide) hf14 (fun _ h9 => h9) rfl dX10_closed_1 ?_
  refine mc_iV ⟨hx, hb, hml, hown, hts⟩ hK hE hA hP hD hS (c_X7_isRack l G Y tF H.size (B_t 0) B_t_current t_current_n t_current_cells h) (cwV 0 hts gX10_closed_X7_isRack rfl rfl rfl (by decide +kernel) ⟨Nat.le_trans (by decide) hRf, Nat.le_trans (by decide) hRl⟩) (fun u => (w_X10_closed Y h_t B_t B_t_current B_t_twisting t_toldCount t_current_n t_current_cells t_told t_twisting_modulus t_twisting_values)) [1, 2] [0, 3, 4, 5] [0, 4, 5, 1, 2, 3] rfl rfl rfl rfl (by decide) (fun _ => rfl) rfl 1 6 rfl rfl rfl rfl hl.1 rfl (Nat.le_of_ble_eq_true rfl) dX10_closed_4 (fun r4 u H locs h hP hD hS => ?_)
  try dsimp only at h
  have hP : va_P G vwCl (w_X10_closed Y h_t B_t B_t_current B_t_twisting t_toldCount t_current_n t_current_cells t_told t_twisting_modulus t_twisting_values) H := hP
  have hD : va_D A (w_X10_closed Y h_t B_t B_t_current B_t_twisting t_toldCount t_current_n t_current_cells t_told t_twisting_modulus t_twisting_values) := hD
  obtain ⟨ht, hf⟩ := h
  refine lv_if_ne (tgt := 12) hx hb dX10_closed_7 (by decide) (fun c9 => ?_) (fun c9 => ?_)
  · have h := ht c9
    refine lv_aload_n hx hb dX10_closed_12 rfl (lv_at hl 0 rfl) ?_
    refine va_get (D := G) (ci := 9) (v := .ref (B_t 4)) (C := RX10) (T := TX10) (N := 15) hx hb hts inX10 hown hK hP 0 rfl rfl 4 (by decide) hf31 (fun _ h9 => h9) rfl dX10_closed_13 ?_
    refine lv_aload_n hx hb dX10_closed_16 rfl (lv_at hl 0 rfl) ?_
    refine va_get (D := G) (ci := 9) (v := .ref (B_t 0)) (C := RX10) (T := TX10) (N := 15) hx hb hts inX10 hown hK hP 0 rfl rfl 0 (by decide) hf14 (fun _ h9 => h9) rfl dX10_closed_17 ?_
    refine mc_iV ⟨hx, hb, hml, hown, hts⟩ hK hE hA hP hD hS (c_X9_firstOpenTriple l G Y tF H.size (B_t 4) (B_t 0) B_t_twisting B_t_current t_twisting_modulus t_twisting_values t_current_n t_current_cells h) (cwV 1 hts gX10_closed_X9_firstOpenTriple rfl rfl rfl (by decide +kernel) ⟨Nat.le_trans (by decide) hRf, Nat.le_trans (by decide) hRl⟩) (fun u => (w_X10_closed Y h_t B_t B_t_current B_t_twisting t_toldCount t_current_n t_current_cells t_told t_twisting_modulus t_twisting_values)) [4, 5, 1, 2] [0, 3] [0, 4, 5, 1, 2, 3] rfl rfl rfl rfl (by decide) (fun _ => rfl) rfl 4 8 rfl rfl rfl rfl hl.1 rfl (Nat.le_of_ble_eq_true rfl) dX10_closed_20 (fun r20 u H locs h hP hD hS => ?_)
    try dsimp only at h
    have hP : va_P G vwCl (w_X10_closed Y h_t B_t B_t_current B_t_twisting t_toldCount t_current_n t_current_cells t_told t_twisting_modulus t_twisting_values) H := hP
    have hD : va_D A (w_X10_closed Y h_t B_t B_t_current B_t_twisting t_toldCount t_current_n t_current_cells t_told t_twisting_modulus t_twisting_values) := hD
    refine lv_istore_n (lv' := [(1, .int r20), (0, .ref h_t)]) hx hb dX10_closed_23 rfl hl (by decide) rfl (fun ls hl => ?_)
    refine lv_iload_n hx hb dX10_closed_24 rfl (lv_at hl 0 rfl) ?_
    refine lv_iconst (v := -1) hx hb dX10_closed_25 (by decide) ?_
    obtain ⟨ht, hf⟩ := h
    refine lv_icmp_ne (tgt := 31) hx hb dX10_closed_26 (by decide) (fun c9 => ?_) (fun c9 => ?_)
    · have h := ht c9
      refine lv_aload_n hx hb dX10_closed_31 rfl (lv_at hl 1 rfl) ?_
      refine lv_iload_n hx hb dX10_closed_32 rfl (lv_at hl 0 rfl) ?_
      refine mc_vV ⟨hx, hb, hml, hown, hts⟩ hK hE hA hP hD hS (c_X10_tellTriple l G Y tF H.size h_t B_t t_toldCount t_told r20 h) (cwV 1 hts gX10_closed_X10_tellTriple rfl rfl rfl (by decide +kernel) ⟨Nat.le_trans (by decide) hRf, Nat.le_trans (by decide) hRl⟩) (fun u => (w_X10_closed Y h_t B_t B_t_current B_t_twisting u.1 t_current_n t_current_cells u.2 t_twisting_modulus t_twisting_values)) [0, 3] [1, 2, 4, 5] [4, 0, 1, 5, 2, 3] rfl rfl rfl rfl (by decide) (fun _ => rfl) rfl 0 9 rfl rfl rfl rfl hl.1 rfl (Nat.le_of_ble_eq_true rfl) dX10_closed_33 (fun u H locs h hP hD hS => ?_)
      obtain ⟨t_toldCount_33, t_told_33⟩ := u
      try dsimp only at h
      have hP : va_P G vwCl (w_X10_closed Y h_t B_t B_t_current B_t_twisting t_toldCount_33 t_current_n t_current_cells t_told_33 t_twisting_modulus t_twisting_values) H := hP
      have hD : va_D A (w_X10_closed Y h_t B_t B_t_current B_t_twisting t_toldCount_33 t_current_n t_current_cells t_told_33 t_twisting_modulus t_twisting_values) := hD
      refine lv_iconst (v := 1) hx hb dX10_closed_36 (by decide) ?_
      exact hret (1 : Int32) t_toldCount_33 t_told_33 H locs ls _ hP hD hS h dX10_closed_37
    · have h := hf c9
      refine lv_iconst (v := 0) hx hb dX10_closed_29 (by decide) ?_
      exact hret (0 : Int32) t_toldCount t_told H locs ls _ hP hD hS h dX10_closed_30
  · have h := hf c9
    refine lv_iconst (v := -1) hx hb dX10_closed_10 (by decide) ?_
    exact hret (-1 : Int32) t_toldCount t_told H locs ls _ hP hD hS h dX10_closed_11

set_option maxHeartbeats 20000000 in
set_option maxRecDepth 100000 in
theorem c_X10_closed (l : Launch) (G : va_G) (Y : Nat → ClassId) (tF sz : Nat) (h_t : Nat) (B_t : Nat → Nat) (B_t_current : Nat → Nat) (B_t_twisting : Nat → Nat) (t_toldCount : Int32) (t_current_n : Int32) (t_current_cells : Nat → Int32) (t_told : Nat → Int32) (t_twisting_modulus : Int32) (t_twisting_values : Nat → Int32) {K : Int32 → Int32 → (Nat → Int32) → Prop} (h : pX10_closed t_toldCount t_current_n t_current_cells t_told t_twisting_modulus t_twisting_values K) : Met l yX10_closed wsX10_closed ({ frames := 3, cells := 0, slots := 0, locals := 66 }) (PcM G Y tF sz (w_X10_closed Y h_t B_t B_t_current B_t_twisting t_toldCount t_current_n t_current_cells t_told t_twisting_modulus t_twisting_values) [.ref h_t]) (va_Qi (fun (r : Int32) (u : Int32 × (Nat → Int32)) => K r u.1 u.2) (fun u t => BM G Y (va_A (w_X10_closed Y h_t B_t B_t_current B_t_twisting t_toldCount t_current_n t_current_cells t_told t_twisting_modulus t_twisting_values) sz) (w_X10_closed Y h_t B_t B_t_current B_t_twisting u.1 t_current_n t_current_cells u.2 t_twisting_modulus t_twisting_values) t) (va_A (w_X10_closed Y h_t B_t B_t_current B_t_twisting t_toldCount t_current_n t_current_cells t_told t_twisting_modulus t_twisting_values) sz)) 0 0 (va_A (w_X10_closed Y h_t B_t B_t_current B_t_twisting t_toldCount t_current_n t_current_cells t_told t_twisting_modulus t_twisting_values) sz) := by
  refine Met.ofW (cc := cX10_closed) (maxL := 2) (ret := (some .int)) (by decide +kernel) rfl ?_
  intro p e s m args below meth c s₁ B hml hv
  obtain ⟨rfl, hsz, hP, hK, hD0, hE⟩ := hv
  have hts := atoms_spec (ws := wsX10_closed) B.pre
  have hown : s.vm.findClass RX10 = some m.cls := findClass_of_methodNamed B.named
  have hlocks := B.notSynchronized
  subst hsz
  have hD := hD0.self (sz := s.heap.size)
  exact wk_X10_closed h_t B_t B_t_current B_t_twisting t_toldCount t_current_n t_current_cells t_told t_twisting_modulus t_twisting_values B.exec B.bytes hml hown hts hK hE (fun q h => Or.inr h) (Nat.le_refl _) (Nat.le_refl _) (fun r t_toldCount t_told H locs ls pc hP hD hS hk hd => W.iret (v := r) B.exec B.bytes B.returns (fun t ht hW => ⟨⟨r, (t_toldCount, t_told), rfl, hk, by rw [ht]; exact hP, va_K.moved hW.alike hK, hD⟩, hS.F ht⟩) hS.2.2 hd) hP hD h

abbrev w_X10_cover (Y : Nat → ClassId) (h_t : Nat) (B_t : Nat → Nat) (B_t_current : Nat → Nat) (B_t_draft : Nat → Nat) (B_t_twisting : Nat → Nat) (t_toldCount : Int32) (t_current_n : Int32) (t_current_cells : Nat → Int32) (t_draft_n : Int32) (t_draft_cells : Nat → Int32) (t_twisting_modulus : Int32) (t_twisting_values : Nat → Int32) : va_W := [(h_t, .inr (9, [.ref (B_t 0), .ref (B_t 1), .ref (B_t 2), .ref (B_t 3), .ref (B_t 4), .ref (B_t 5), .ref (B_t 6), .ref (B_t 7), .ref (B_t 8), .ref (B_t 9), .ref (B_t 10), .ref (B_t 11), .ref (B_t 12), .ref (B_t 13), .int t_toldCount])), ((B_t 0), .inr (6, [.ref (B_t_current 0), .int t_current_n])), ((B_t_current 0), .inl (Y 0, 64, .inl t_current_cells)), ((B_t 1), .inr (6, [.ref (B_t_draft 0), .int t_draft_n])), ((B_t_draft 0), .inl (Y 0, 64, .inl t_draft_cells)), ((B_t 4), .inr (8, [.ref (B_t_twisting 0), .int t_twisting_modulus])), ((B_t_twisting 0), .inl (Y 0, 64, .inl t_twisting_values))]

set_option maxHeartbeats 20000000 in
set_option maxRecDepth 100000 in
theorem wk_X10_cover {p : Program} {l : Launch} {e : Env} {R : Room} {s : State} {m : MethodId} {args : Array Value} {below : List Frame} {meth : Method} {c : Code} {Q : State → Prop} {G : va_G} {Y : Nat → ClassId} {tF : Nat} {A : Nat → Prop} (h_t : Nat) (B_t : Nat → Nat) (B_t_current : Nat → Nat) (B_t_draft : Nat → Nat) (B_t_twisting : Nat → Nat) (t_toldCount : Int32) (t_current_n : Int32) (t_current_cells : Nat → Int32) (t_draft_n : Int32) (t_draft_cells : Nat → Int32) (t_twisting_modulus : Int32) (t_twisting_values : Nat → Int32) {K : Int32 → Int32 → (Nat → Int32) → Int32 → (Nat → Int32) → (Nat → Int32) → Prop} (hx : p.tables.exec = Jvm.exec) (hb : c.code = cX10_cover) (hml : c.maxLocals = 6) (hown : s.vm.findClass RX10 = some m.cls) (hts : ∀ w ∈ wsX10_cover, w.before args s = true) (hK : va_K G vwCl (tyL Y) s) (hE : Ev A tF s) (hA : ∀ q, s.heap.size ≤ q → A q) (hRf : 3 ≤ R.frames) (hRl : 105 ≤ R.locals) (hret : ∀ (r : Int32) (t_current_n : Int32) (t_current_cells : Nat → Int32) (t_draft_n : Int32) (t_draft_cells : Nat → Int32) (t_twisting_values : Nat → Int32) (H : Heap) (locs : List Loc) (ls : Array Slot) (pc : Nat), va_P G vwCl (w_X10_cover Y h_t B_t B_t_current B_t_draft B_t_twisting t_toldCount t_current_n t_current_cells t_draft_n t_draft_cells t_twisting_modulus t_twisting_values) H → va_D A (w_X10_cover Y h_t B_t B_t_current B_t_draft B_t_twisting t_toldCount t_current_n t_current_cells t_draft_n t_draft_cells t_twisting_modulus t_twisting_values) → va_S A s.heap H locs → K r t_current_n t_current_cells t_draft_n t_draft_cells t_twisting_values → decode cX10_cover pc = .ok (.ireturn, 1) → W p l e R s m args below meth c H locs 0 0 Q (F0 m pc ls [.int r])) (hP : va_P G vwCl (w_X10_cover Y h_t B_t B_t_current B_t_draft B_t_twisting t_toldCount t_current_n t_current_cells t_draft_n t_draft_cells t_twisting_modulus t_twisting_values) s.heap) (hD : va_D A (w_X10_cover Y h_t B_t B_t_current B_t_draft B_t_twisting t_toldCount t_current_n t_current_cells t_draft_n t_draft_cells t_twisting_modulus t_twisting_values)) (h : pX10_cover t_current_n t_current_cells t_draft_n t_draft_cells t_twisting_modulus t_twisting_values K) : W p l e R s m args below meth c s.heap [] 0 0 Q (entryFrame m ([.ref h_t] : List Value).toArray 6) := by
  have inX10 : ∀ w ∈ u_ws RX10 TX10 15, w ∈ wsX10_cover := by decide +kernel
  have inX7 : ∀ w ∈ u_ws RX7 TX7 2, w ∈ wsX10_cover := by decide +kernel
  have inX9 : ∀ w ∈ u_ws RX9 TX9 2, w ∈ wsX10_cover := by decide +kernel
  have hf14 := hts (.fieldLink RX10 14 "RackBench" "current" "LRackBench$Table;") (by decide +kernel)
  have hf18 := hts (.fieldLink RX10 18 "RackBench" "draft" "LRackBench$Table;") (by decide +kernel)
  have hf31 := hts (.fieldLink RX10 31 "RackBench" "twisting" "LRackBench$Twist;") (by decide +kernel)
  have hl := lv_entry ([.ref h_t]) (n := 6) (Nat.le_of_ble_eq_true rfl)
  rw [lg_entry_eq]
  generalize (lg_sl ([.ref h_t]) ++ List.replicate (6 - (lg_sl ([.ref h_t])).length) Slot.unset).toArray = ls at hl ⊢
  have hl : lv_has ls 6 [(0, .ref h_t)] := hl
  generalize hH0 : s.heap = H at hP ⊢
  have hS : va_S A s.heap H [] := by rw [← hH0]; exact va_S.rf
  clear hH0
  generalize ([] : List Loc) = locs at hS ⊢
  refine lv_aload_n hx hb dX10_cover_0 rfl (lv_at hl 0 rfl) ?_
  refine va_get (D := G) (ci := 9) (v := .ref (B_t 4)) (C := RX10) (T := TX10) (N := 15) hx hb hts inX10 hown hK hP 0 rfl rfl 4 (by decide) hf31 (fun _ h9 => h9) rfl dX10_cover_1 ?_
  refine va_getN (D := G) (ci := 8) (v := .int t_twisting_modulus) (C := RX9) (T := TX9) (N := 2) hx hb hts inX9 hown hK hP 5 rfl rfl 1 (by decide) (hE.nest args 1 _ rfl) (fun _ h9 => h9) rfl dX10_cover_4 ?_
  refine lv_istore_n (lv' := [(1, .int t_twisting_modulus), (0, .ref h_t)]) hx hb dX10_cover_7 rfl hl (by decide) rfl (fun ls hl => ?_)
  refine lv_aload_n hx hb dX10_cover_8 rfl (lv_at hl 1 rfl) ?_
  refine va_get (D := G) (ci := 9) (v := .ref (B_t 0)) (C := RX10) (T := TX10) (N := 15) hx hb hts inX10 hown hK hP 0 rfl rfl 0 (by decide) hf14 (fun _ h9 => h9) rfl dX10_cover_9 ?_
  refine va_getN (D := G) (ci := 6) (v := .int t_current_n) (C := RX7) (T := TX7) (N := 2) hx hb hts inX7 hown hK hP 1 rfl rfl 1 (by decide) (hE.nest args 0 _ rfl) (fun _ h9 => h9) rfl dX10_cover_12 ?_
  refine lv_iload_n hx hb dX10_cover_15 rfl (lv_at hl 0 rfl) ?_
  refine lv_imul hx hb dX10_cover_16 ?_
  refine lv_bipush (v := 8) hx hb dX10_cover_17 (by decide) ?_
  obtain ⟨ht, hf⟩ := h
  refine lv_icmp_gt (tgt := 47) hx hb dX10_cover_19 (by decide) (fun c9 => ?_) (fun c9 => ?_)
  · have h := ht c9
    refine lv_iconst (v := -1) hx hb dX10_cover_47 (by decide) ?_
    exact hret (-1 : Int32) t_current_n t_current_cells t_draft_n t_draft_cells t_twisting_values H locs ls _ hP hD hS h dX10_cover_48
  · have h := hf c9
    refine lv_aload_n hx hb dX10_cover_22 rfl (lv_at hl 1 rfl) ?_
    refine va_get (D := G) (ci := 9) (v := .ref (B_t 0)) (C := RX10) (T := TX10) (N := 15) hx hb hts inX10 hown hK hP 0 rfl rfl 0 (by decide) hf14 (fun _ h9 => h9) rfl dX10_cover_23 ?_
    refine mc_iV ⟨hx, hb, hml, hown, hts⟩ hK hE hA hP hD hS (c_X7_isRack l G Y tF H.size (B_t 0) B_t_current t_current_n t_current_cells h) (cwV 0 hts gX10_cover_X7_isRack rfl rfl rfl (by decide +kernel) ⟨Nat.le_trans (by decide) hRf, Nat.le_trans (by decide) hRl⟩) (fun u => (w_X10_cover Y h_t B_t B_t_current B_t_draft B_t_twisting t_toldCount t_current_n t_current_cells t_draft_n t_draft_cells t_twisting_modulus t_twisting_values)) [1, 2] [0, 3, 4, 5, 6] [0, 5, 6, 1, 2, 3, 4] rfl rfl rfl rfl (by decide) (fun _ => rfl) rfl 1 6 rfl rfl rfl rfl hl.1 rfl (Nat.le_of_ble_eq_true rfl) dX10_cover_26 (fun r26 u H locs h hP hD hS => ?_)
    try dsimp only at h
    have hP : va_P G vwCl (w_X10_cover Y h_t B_t B_t_current B_t_draft B_t_twisting t_toldCount t_current_n t_current_cells t_draft_n t_draft_cells t_twisting_modulus t_twisting_values) H := hP
    have hD : va_D A (w_X10_cover Y h_t B_t B_t_current B_t_draft B_t_twisting t_toldCount t_current_n t_current_cells t_draft_n t_draft_cells t_twisting_modulus t_twisting_values) := hD
    obtain ⟨ht, hf⟩ := h
    refine lv_if_eq (tgt := 47) hx hb dX10_cover_29 (by decide) (fun c9 => ?_) (fun c9 => ?_)
    · have h := ht c9
      refine lv_iconst (v := -1) hx hb dX10_cover_47 (by decide) ?_
      exact hret (-1 : Int32) t_current_n t_current_cells t_draft_n t_draft_cells t_twisting_values H locs ls _ hP hD hS h dX10_cover_48
    · have h := hf c9
      refine lv_aload_n hx hb dX10_cover_32 rfl (lv_at hl 1 rfl) ?_
      refine va_get (D := G) (ci := 9) (v := .ref (B_t 4)) (C := RX10) (T := TX10) (N := 15) hx hb hts inX10 hown hK hP 0 rfl rfl 4 (by decide) hf31 (fun _ h9 => h9) rfl dX10_cover_33 ?_
      refine lv_aload_n hx hb dX10_cover_36 rfl (lv_at hl 1 rfl) ?_
      refine va_get (D := G) (ci := 9) (v := .ref (B_t 0)) (C := RX10) (T := TX10) (N := 15) hx hb hts inX10 hown hK hP 0 rfl rfl 0 (by decide) hf14 (fun _ h9 => h9) rfl dX10_cover_37 ?_
      refine mc_iV ⟨hx, hb, hml, hown, hts⟩ hK hE hA hP hD hS (c_X9_firstOpenTriple l G Y tF H.size (B_t 4) (B_t 0) B_t_twisting B_t_current t_twisting_modulus t_twisting_values t_current_n t_current_cells h) (cwV 1 hts gX10_cover_X9_firstOpenTriple rfl rfl rfl (by decide +kernel) ⟨Nat.le_trans (by decide) hRf, Nat.le_trans (by decide) hRl⟩) (fun u => (w_X10_cover Y h_t B_t B_t_current B_t_draft B_t_twisting t_toldCount t_current_n t_current_cells t_draft_n t_draft_cells t_twisting_modulus t_twisting_values)) [5, 6, 1, 2] [0, 3, 4] [0, 5, 6, 1, 2, 3, 4] rfl rfl rfl rfl (by decide) (fun _ => rfl) rfl 5 8 rfl rfl rfl rfl hl.1 rfl (Nat.le_of_ble_eq_true rfl) dX10_cover_40 (fun r40 u H locs h hP hD hS => ?_)
      try dsimp only at h
      have hP : va_P G vwCl (w_X10_cover Y h_t B_t B_t_current B_t_draft B_t_twisting t_toldCount t_current_n t_current_cells t_draft_n t_draft_cells t_twisting_modulus t_twisting_values) H := hP
      have hD : va_D A (w_X10_cover Y h_t B_t B_t_current B_t_draft B_t_twisting t_toldCount t_current_n t_current_cells t_draft_n t_draft_cells t_twisting_modulus t_twisting_values) := hD
      refine lv_iconst (v := -1) hx hb dX10_cover_43 (by decide) ?_
      obtain ⟨ht, hf⟩ := h
      refine lv_icmp_eq (tgt := 49) hx hb dX10_cover_44 (by decide) (fun c9 => ?_) (fun c9 => ?_)
      · have h := ht c9
        refine lv_aload_n hx hb dX10_cover_49 rfl (lv_at hl 1 rfl) ?_
        refine va_get (D := G) (ci := 9) (v := .ref (B_t 1)) (C := RX10) (T := TX10) (N := 15) hx hb hts inX10 hown hK hP 0 rfl rfl 1 (by decide) hf18 (fun _ h9 => h9) rfl dX10_cover_50 ?_
        refine lv_aload_n hx hb dX10_cover_53 rfl (lv_at hl 1 rfl) ?_
        refine va_get (D := G) (ci := 9) (v := .ref (B_t 0)) (C := RX10) (T := TX10) (N := 15) hx hb hts inX10 hown hK hP 0 rfl rfl 0 (by decide) hf14 (fun _ h9 => h9) rfl dX10_cover_54 ?_
        refine va_getN (D := G) (ci := 6) (v := .int t_current_n) (C := RX7) (T := TX7) (N := 2) hx hb hts inX7 hown hK hP 1 rfl rfl 1 (by decide) (hE.nest args 0 _ rfl) (fun _ h9 => h9) rfl dX10_cover_57 ?_
        refine lv_iload_n hx hb dX10_cover_60 rfl (lv_at hl 0 rfl) ?_
        refine lv_imul hx hb dX10_cover_61 ?_
        refine va_putN (D := G) (ci := 6) (v := .int (t_current_n * t_twisting_modulus)) (ty := .int) (C := RX7) (T := TX7) (N := 2) hx hb hts inX7 tyX7 tyX7_ok nmX7 hown hK hP hD hS 3 rfl rfl 1 (by decide) (hE.nest args 0 _ rfl) (fun _ h9 => h9) rfl (by decide +kernel) rfl rfl (Nat.le_of_ble_eq_true rfl) dX10_cover_62 (fun H locs hP hD hS => ?_)
        have hP : va_P G vwCl (w_X10_cover Y h_t B_t B_t_current B_t_draft B_t_twisting t_toldCount t_current_n t_current_cells (t_current_n * t_twisting_modulus) t_draft_cells t_twisting_modulus t_twisting_values) H := hP
        have hD : va_D A (w_X10_cover Y h_t B_t B_t_current B_t_draft B_t_twisting t_toldCount t_current_n t_current_cells (t_current_n * t_twisting_modulus) t_draft_cells t_twisting_modulus t_twisting_values) := hD
        refine lv_iconst (v := 0) hx hb dX10_cover_65 (by decide) ?_
        refine lv_istore_n (lv' := [(2, .int (0 : Int32)), (1, .int t_twisting_modulus), (0, .ref h_t)]) hx hb dX10_cover_66 rfl hl (by decide) rfl (fun ls hl => ?_)
        obtain ⟨I67, m67, hI67, hB67⟩ := h
        have L67 : ∀ (x1 : Int32) (t_current_n : Int32) (t_current_cells : Nat → Int32) (t_draft_n : Int32) (t_twisting_values : Nat → Int32) (I67 : Int32 → (Nat → Int32) → Prop) (m67 : Int32 → (Nat → Int32) → Nat), (∀ (x2 : Int32) (t_draft_cells : Nat → Int32), I67 x2 t_draft_cells → pX10_cover_67 t_twisting_modulus K x1 t_current_n t_current_cells t_draft_n t_twisting_values x2 t_draft_cells (fun x2' t_draft_cells' => I67 x2' t_draft_cells' ∧ m67 x2' t_draft_cells' < m67 x2 t_draft_cells)) → ∀ (n : Nat) (x2 : Int32) (t_draft_cells : Nat → Int32) (H : Heap) (locs : List Loc) (ls : Array Slot), I67 x2 t_draft_cells → m67 x2 t_draft_cells < n → va_P G vwCl (w_X10_cover Y h_t B_t B_t_current B_t_draft B_t_twisting t_toldCount t_current_n t_current_cells t_draft_n t_draft_cells t_twisting_modulus t_twisting_values) H → va_D A (w_X10_cover Y h_t B_t B_t_current B_t_draft B_t_twisting t_toldCount t_current_n t_current_cells t_draft_n t_draft_cells t_twisting_modulus t_twisting_values) → va_S A s.heap H locs → lv_has ls 6 [(0, .ref h_t), (1, .int x1), (2, .int x2)] → W p l e R s m args below meth c H locs 0 0 Q (F0 m 67 ls []) := by
          intro x1 t_current_n t_current_cells t_draft_n t_twisting_values I67 m67 hB67 n
          induction n with
          | zero => intro x2 t_draft_cells H locs ls _ hm; exact absurd hm (Nat.not_lt_zero _)
          | succ n ih =>
            intro x2 t_draft_cells H locs ls hI hm hP hD hS hl
            obtain ⟨R67, h, rec67⟩ : ∃ R67 : Int32 → (Nat → Int32) → Prop, pX10_cover_67 t_twisting_modulus K x1 t_current_n t_current_cells t_draft_n t_twisting_values x2 t_draft_cells R67 ∧ ∀ (x2 : Int32) (t_draft_cells : Nat → Int32) (H : Heap) (locs : List Loc) (ls : Array Slot), R67 x2 t_draft_cells → va_P G vwCl (w_X10_cover Y h_t B_t B_t_current B_t_draft B_t_twisting t_toldCount t_current_n t_current_cells t_draft_n t_draft_cells t_twisting_modulus t_twisting_values) H → va_D A (w_X10_cover Y h_t B_t B_t_current B_t_draft B_t_twisting t_toldCount t_current_n t_current_cells t_draft_n t_draft_cells t_twisting_modulus t_twisting_values) → va_S A s.heap H locs → lv_has ls 6 [(0, .ref h_t), (1, .int x1), (2, .int x2)] → W p l e R s m args below meth c H locs 0 0 Q (F0 m 67 ls []) := ⟨_, hB67 x2 t_draft_cells hI, fun x2 t_draft_cells H locs ls hh hP hD hS hl => ih x2 t_draft_cells H locs ls hh.1 (Nat.lt_of_lt_of_le hh.2 (Nat.le_of_lt_succ hm)) hP hD hS hl⟩
            refine lv_iload_n hx hb dX10_cover_67 rfl (lv_at hl 2 rfl) ?_
            refine lv_aload_n hx hb dX10_cover_68 rfl (lv_at hl 0 rfl) ?_
            refine va_get (D := G) (ci := 9) (v := .ref (B_t 1)) (C := RX10) (T := TX10) (N := 15) hx hb hts inX10 hown hK hP 0 rfl rfl 1 (by decide) hf18 (fun _ h9 => h9) rfl dX10_cover_69 ?_
            refine va_getN (D := G) (ci := 6) (v := .int t_draft_n) (C := RX7) (T := TX7) (N := 2) hx hb hts inX7 hown hK hP 3 rfl rfl 1 (by decide) (hE.nest args 0 _ rfl) (fun _ h9 => h9) rfl dX10_cover_72 ?_
            obtain ⟨ht, hf⟩ := h
            refine lv_icmp_ge (tgt := 155) hx hb dX10_cover_75 (by decide) (fun c9 => ?_) (fun c9 => ?_)
            · have h := ht c9
              refine lv_aload_n hx hb dX10_cover_155 rfl (lv_at hl 0 rfl) ?_
              refine mc_iV ⟨hx, hb, hml, hown, hts⟩ hK hE hA hP hD hS (c_X10_adoptDraft l G Y tF H.size h_t B_t B_t_current B_t_draft B_t_twisting t_toldCount t_current_n t_current_cells t_draft_n t_draft_cells t_twisting_modulus t_twisting_values h) (cwV 0 hts gX10_cover_X10_adoptDraft rfl rfl rfl (by decide +kernel) ⟨Nat.le_trans (by decide) hRf, Nat.le_trans (by decide) hRl⟩) (fun u => (w_X10_cover Y h_t B_t B_t_current B_t_draft B_t_twisting t_toldCount u.1 u.2.1 t_draft_n t_draft_cells t_twisting_modulus u.2.2)) [0, 1, 2, 3, 4, 5, 6] [] [0, 1, 2, 3, 4, 5, 6] rfl rfl rfl rfl (by decide) (fun _ => rfl) rfl 0 9 rfl rfl rfl rfl hl.1 rfl (Nat.le_of_ble_eq_true rfl) dX10_cover_156 (fun r156 u H locs h hP hD hS => ?_)
              obtain ⟨t_current_n_156, t_current_cells_156, t_twisting_values_156⟩ := u
              try dsimp only at h
              have hP : va_P G vwCl (w_X10_cover Y h_t B_t B_t_current B_t_draft B_t_twisting t_toldCount t_current_n_156 t_current_cells_156 t_draft_n t_draft_cells t_twisting_modulus t_twisting_values_156) H := hP
              have hD : va_D A (w_X10_cover Y h_t B_t B_t_current B_t_draft B_t_twisting t_toldCount t_current_n_156 t_current_cells_156 t_draft_n t_draft_cells t_twisting_modulus t_twisting_values_156) := hD
              exact hret r156 t_current_n_156 t_current_cells_156 t_draft_n t_draft_cells t_twisting_values_156 H locs ls _ hP hD hS h dX10_cover_159
            · have h := hf c9
              refine lv_iload_n hx hb dX10_cover_78 rfl (lv_at hl 2 rfl) ?_
              refine lv_iload_n hx hb dX10_cover_79 rfl (lv_at hl 1 rfl) ?_
              obtain ⟨hne, h⟩ := h
              refine lv_idiv hx hb dX10_cover_80 hne ?_
              refine lv_istore_n (lv' := [(3, .int (x2 / x1)), (0, .ref h_t), (1, .int x1), (2, .int x2)]) hx hb dX10_cover_81 rfl hl (by decide) rfl (fun ls hl => ?_)
              refine lv_iconst (v := 0) hx hb dX10_cover_82 (by decide) ?_
              refine lv_istore (lv' := [(4, .int (0 : Int32)), (3, .int (x2 / x1)), (0, .ref h_t), (1, .int x1), (2, .int x2)]) hx hb dX10_cover_83 hl (by decide) rfl (fun ls hl => ?_)
              obtain ⟨I85, m85, hI85, hB85⟩ := h
              have L85 : ∀ (x2 : Int32) (x3 : Int32) (I85 : Int32 → (Nat → Int32) → Prop) (m85 : Int32 → (Nat → Int32) → Nat), (∀ (x4 : Int32) (t_draft_cells : Nat → Int32), I85 x4 t_draft_cells → pX10_cover_85 t_twisting_modulus R67 K x1 t_current_n t_current_cells t_draft_n t_twisting_values x2 x3 x4 t_draft_cells (fun x4' t_draft_cells' => I85 x4' t_draft_cells' ∧ m85 x4' t_draft_cells' < m85 x4 t_draft_cells)) → ∀ (n : Nat) (x4 : Int32) (t_draft_cells : Nat → Int32) (H : Heap) (locs : List Loc) (ls : Array Slot), I85 x4 t_draft_cells → m85 x4 t_draft_cells < n → va_P G vwCl (w_X10_cover Y h_t B_t B_t_current B_t_draft B_t_twisting t_toldCount t_current_n t_current_cells t_draft_n t_draft_cells t_twisting_modulus t_twisting_values) H → va_D A (w_X10_cover Y h_t B_t B_t_current B_t_draft B_t_twisting t_toldCount t_current_n t_current_cells t_draft_n t_draft_cells t_twisting_modulus t_twisting_values) → va_S A s.heap H locs → lv_has ls 6 [(0, .ref h_t), (1, .int x1), (2, .int x2), (3, .int x3), (4, .int x4)] → W p l e R s m args below meth c H locs 0 0 Q (F0 m 85 ls []) := by
                intro x2 x3 I85 m85 hB85 n
                induction n with
                | zero => intro x4 t_draft_cells H locs ls _ hm; exact absurd hm (Nat.not_lt_zero _)
                | succ n ih =>
                  intro x4 t_draft_cells H locs ls hI hm hP hD hS hl
                  obtain ⟨R85, h, rec85⟩ : ∃ R85 : Int32 → (Nat → Int32) → Prop, pX10_cover_85 t_twisting_modulus R67 K x1 t_current_n t_current_cells t_draft_n t_twisting_values x2 x3 x4 t_draft_cells R85 ∧ ∀ (x4 : Int32) (t_draft_cells : Nat → Int32) (H : Heap) (locs : List Loc) (ls : Array Slot), R85 x4 t_draft_cells → va_P G vwCl (w_X10_cover Y h_t B_t B_t_current B_t_draft B_t_twisting t_toldCount t_current_n t_current_cells t_draft_n t_draft_cells t_twisting_modulus t_twisting_values) H → va_D A (w_X10_cover Y h_t B_t B_t_current B_t_draft B_t_twisting t_toldCount t_current_n t_current_cells t_draft_n t_draft_cells t_twisting_modulus t_twisting_values) → va_S A s.heap H locs → lv_has ls 6 [(0, .ref h_t), (1, .int x1), (2, .int x2), (3, .int x3), (4, .int x4)] → W p l e R s m args below meth c H locs 0 0 Q (F0 m 85 ls []) := ⟨_, hB85 x4 t_draft_cells hI, fun x4 t_draft_cells H locs ls hh hP hD hS hl => ih x4 t_draft_cells H locs ls hh.1 (Nat.lt_of_lt_of_le hh.2 (Nat.le_of_lt_succ hm)) hP hD hS hl⟩
                  refine lv_iload hx hb dX10_cover_85 (lv_at hl 4 rfl) ?_
                  refine lv_aload_n hx hb dX10_cover_87 rfl (lv_at hl 0 rfl) ?_
                  refine va_get (D := G) (ci := 9) (v := .ref (B_t 1)) (C := RX10) (T := TX10) (N := 15) hx hb hts inX10 hown hK hP 0 rfl rfl 1 (by decide) hf18 (fun _ h9 => h9) rfl dX10_cover_88 ?_
                  refine va_getN (D := G) (ci := 6) (v := .int t_draft_n) (C := RX7) (T := TX7) (N := 2) hx hb hts inX7 hown hK hP 3 rfl rfl 1 (by decide) (hE.nest args 0 _ rfl) (fun _ h9 => h9) rfl dX10_cover_91 ?_
                  obtain ⟨ht, hf⟩ := h
                  refine lv_icmp_ge (tgt := 149) hx hb dX10_cover_94 (by decide) (fun c9 => ?_) (fun c9 => ?_)
                  · have h := ht c9
                    refine lv_iinc (v := (x2 + 1)) (lv' := [(2, .int (x2 + 1)), (0, .ref h_t), (1, .int x1), (3, .int x3), (4, .int x4)]) hx hb dX10_cover_149 hl (k := 2) rfl rfl (by decide) rfl (fun ls hl => ?_)
                    refine lv_goto (tgt := 67) hx hb dX10_cover_152 (by decide) ?_
                    exact rec67 (x2 + 1) t_draft_cells H locs ls h hP hD hS (lv_sub hl [1, 2, 0] rfl)
                  · have h := hf c9
                    refine lv_iload hx hb dX10_cover_97 (lv_at hl 4 rfl) ?_
                    refine lv_iload_n hx hb dX10_cover_99 rfl (lv_at hl 1 rfl) ?_
                    obtain ⟨hne, h⟩ := h
                    refine lv_idiv hx hb dX10_cover_100 hne ?_
                    refine lv_istore (lv' := [(5, .int (x4 / x1)), (0, .ref h_t), (1, .int x1), (2, .int x2), (3, .int x3), (4, .int x4)]) hx hb dX10_cover_101 hl (by decide) rfl (fun ls hl => ?_)
                    refine lv_aload_n hx hb dX10_cover_103 rfl (lv_at hl 1 rfl) ?_
                    refine va_get (D := G) (ci := 9) (v := .ref (B_t 1)) (C := RX10) (T := TX10) (N := 15) hx hb hts inX10 hown hK hP 0 rfl rfl 1 (by decide) hf18 (fun _ h9 => h9) rfl dX10_cover_104 ?_
                    refine lv_iload_n hx hb dX10_cover_107 rfl (lv_at hl 3 rfl) ?_
                    refine lv_iload hx hb dX10_cover_108 (lv_at hl 5 rfl) ?_
                    refine lv_iload_n hx hb dX10_cover_110 rfl (lv_at hl 2 rfl) ?_
                    refine lv_aload_n hx hb dX10_cover_111 rfl (lv_at hl 1 rfl) ?_
                    refine va_get (D := G) (ci := 9) (v := .ref (B_t 0)) (C := RX10) (T := TX10) (N := 15) hx hb hts inX10 hown hK hP 0 rfl rfl 0 (by decide) hf14 (fun _ h9 => h9) rfl dX10_cover_112 ?_
                    refine lv_iload_n hx hb dX10_cover_115 rfl (lv_at hl 4 rfl) ?_
                    refine lv_iload hx hb dX10_cover_116 (lv_at hl 0 rfl) ?_
                    refine mc_iV ⟨hx, hb, hml, hown, hts⟩ hK hE hA hP hD hS (c_X7_turned l G Y tF H.size (B_t 0) B_t_current t_current_n t_current_cells x3 (x4 / x1) h) (cwV 2 hts gX10_cover_X7_turned rfl rfl rfl (by decide +kernel) ⟨Nat.le_trans (by decide) hRf, Nat.le_trans (by decide) hRl⟩) (fun u => (w_X10_cover Y h_t B_t B_t_current B_t_draft B_t_twisting t_toldCount t_current_n t_current_cells t_draft_n t_draft_cells t_twisting_modulus t_twisting_values)) [1, 2] [0, 3, 4, 5, 6] [0, 5, 6, 1, 2, 3, 4] rfl rfl rfl rfl (by decide) (fun _ => rfl) rfl 1 6 rfl rfl rfl rfl hl.1 rfl (Nat.le_of_ble_eq_true rfl) dX10_cover_118 (fun r118 u H locs h hP hD hS => ?_)
                    try dsimp only at h
                    have hP : va_P G vwCl (w_X10_cover Y h_t B_t B_t_current B_t_draft B_t_twisting t_toldCount t_current_n t_current_cells t_draft_n t_draft_cells t_twisting_modulus t_twisting_values) H := hP
                    have hD : va_D A (w_X10_cover Y h_t B_t B_t_current B_t_draft B_t_twisting t_toldCount t_current_n t_current_cells t_draft_n t_draft_cells t_twisting_modulus t_twisting_values) := hD
                    refine lv_imul hx hb dX10_cover_121 ?_
                    refine lv_iload hx hb dX10_cover_122 (lv_at hl 5 rfl) ?_
                    refine lv_iload_n hx hb dX10_cover_124 rfl (lv_at hl 2 rfl) ?_
                    obtain ⟨hne, h⟩ := h
                    refine lv_irem hx hb dX10_cover_125 hne ?_
                    refine lv_aload_n hx hb dX10_cover_126 rfl (lv_at hl 1 rfl) ?_
                    refine va_get (D := G) (ci := 9) (v := .ref (B_t 4)) (C := RX10) (T := TX10) (N := 15) hx hb hts inX10 hown hK hP 0 rfl rfl 4 (by decide) hf31 (fun _ h9 => h9) rfl dX10_cover_127 ?_
                    refine lv_iload_n hx hb dX10_cover_130 rfl (lv_at hl 4 rfl) ?_
                    refine lv_iload hx hb dX10_cover_131 (lv_at hl 0 rfl) ?_
                    refine mc_iV ⟨hx, hb, hml, hown, hts⟩ hK hE hA hP hD hS (c_X9_value l G Y tF H.size (B_t 4) B_t_twisting t_twisting_modulus t_twisting_values x3 (x4 / x1) h) (cwV 2 hts gX10_cover_X9_value rfl rfl rfl (by decide +kernel) ⟨Nat.le_trans (by decide) hRf, Nat.le_trans (by decide) hRl⟩) (fun u => (w_X10_cover Y h_t B_t B_t_current B_t_draft B_t_twisting t_toldCount t_current_n t_current_cells t_draft_n t_draft_cells t_twisting_modulus t_twisting_values)) [5, 6] [0, 1, 2, 3, 4] [0, 1, 2, 3, 4, 5, 6] rfl rfl rfl rfl (by decide) (fun _ => rfl) rfl 5 8 rfl rfl rfl rfl hl.1 rfl (Nat.le_of_ble_eq_true rfl) dX10_cover_133 (fun r133 u H locs h hP hD hS => ?_)
                    try dsimp only at h
                    have hP : va_P G vwCl (w_X10_cover Y h_t B_t B_t_current B_t_draft B_t_twisting t_toldCount t_current_n t_current_cells t_draft_n t_draft_cells t_twisting_modulus t_twisting_values) H := hP
                    have hD : va_D A (w_X10_cover Y h_t B_t B_t_current B_t_draft B_t_twisting t_toldCount t_current_n t_current_cells t_draft_n t_draft_cells t_twisting_modulus t_twisting_values) := hD
                    refine lv_iadd hx hb dX10_cover_136 ?_
                    refine lv_iload_n hx hb dX10_cover_137 rfl (lv_at hl 2 rfl) ?_
                    obtain ⟨hne, h⟩ := h
                    refine lv_irem hx hb dX10_cover_138 hne ?_
                    refine lv_iadd hx hb dX10_cover_139 ?_
                    refine mc_vV ⟨hx, hb, hml, hown, hts⟩ hK hE hA hP hD hS (c_X7_put l G Y tF H.size (B_t 1) B_t_draft t_draft_n t_draft_cells x2 x4 ((x1 * r118) + (((x4 - x4 / x1 * x1) + r133) - ((x4 - x4 / x1 * x1) + r133) / x1 * x1)) h) (cwV 3 hts gX10_cover_X7_put rfl rfl rfl (by decide +kernel) ⟨Nat.le_trans (by decide) hRf, Nat.le_trans (by decide) hRl⟩) (fun u => (w_X10_cover Y h_t B_t B_t_current B_t_draft B_t_twisting t_toldCount t_current_n t_current_cells t_draft_n u t_twisting_modulus t_twisting_values)) [3, 4] [0, 1, 2, 5, 6] [0, 1, 2, 5, 6, 3, 4] rfl rfl rfl rfl (by decide) (fun _ => rfl) rfl 3 6 rfl rfl rfl rfl hl.1 rfl (Nat.le_of_ble_eq_true rfl) dX10_cover_140 (fun u H locs h hP hD hS => ?_)
                    obtain ⟨t_draft_cells_140, rfl⟩ : ∃ z, z = u := ⟨_, rfl⟩
                    try dsimp only at h
                    have hP : va_P G vwCl (w_X10_cover Y h_t B_t B_t_current B_t_draft B_t_twisting t_toldCount t_current_n t_current_cells t_draft_n t_draft_cells_140 t_twisting_modulus t_twisting_values) H := hP
                    have hD : va_D A (w_X10_cover Y h_t B_t B_t_current B_t_draft B_t_twisting t_toldCount t_current_n t_current_cells t_draft_n t_draft_cells_140 t_twisting_modulus t_twisting_values) := hD
                    refine lv_iinc (v := (x4 + 1)) (lv' := [(4, .int (x4 + 1)), (5, .int (x4 / x1)), (0, .ref h_t), (1, .int x1), (2, .int x2), (3, .int x3)]) hx hb dX10_cover_143 hl (k := 5) rfl rfl (by decide) rfl (fun ls hl => ?_)
                    refine lv_goto (tgt := 85) hx hb dX10_cover_146 (by decide) ?_
                    exact rec85 (x4 + 1) t_draft_cells_140 H locs ls h hP hD hS (lv_sub hl [2, 3, 4, 5, 0] rfl)
              exact L85 x2 (x2 / x1) I85 m85 hB85 _ (0 : Int32) t_draft_cells H locs ls hI85 (Nat.lt_succ_self _) hP hD hS (lv_sub hl [2, 3, 4, 1, 0] rfl)
        exact L67 t_twisting_modulus t_current_n t_current_cells (t_current_n * t_twisting_modulus) t_twisting_values I67 m67 hB67 _ (0 : Int32) t_draft_cells H locs ls hI67 (Nat.lt_succ_self _) hP hD hS (lv_sub hl [2, 1, 0] rfl)
      · have h := hf c9
        refine lv_iconst (v := -1) hx hb dX10_cover_47 (by decide) ?_
        exact hret (-1 : Int32) t_current_n t_current_cells t_draft_n t_draft_cells t_twisting_values H locs ls _ hP hD hS h dX10_cover_48

set_option maxHeartbeats 20000000 in
set_option maxRecDepth 100000 in
theorem c_X10_cover (l : Launch) (G : va_G) (Y : Nat → ClassId) (tF sz : Nat) (h_t : Nat) (B_t : Nat → Nat) (B_t_current : Nat → Nat) (B_t_draft : Nat → Nat) (B_t_twisting : Nat → Nat) (t_toldCount : Int32) (t_current_n : Int32) (t_current_cells : Nat → Int32) (t_draft_n : Int32) (t_draft_cells : Nat → Int32) (t_twisting_modulus : Int32) (t_twisting_values : Nat → Int32) {K : Int32 → Int32 → (Nat → Int32) → Int32 → (Nat → Int32) → (Nat → Int32) → Prop} (h : pX10_cover t_current_n t_current_cells t_draft_n t_draft_cells t_twisting_modulus t_twisting_values K) : Met l yX10_cover wsX10_cover ({ frames := 3, cells := 0, slots := 0, locals := 105 }) (PcM G Y tF sz (w_X10_cover Y h_t B_t B_t_current B_t_draft B_t_twisting t_toldCount t_current_n t_current_cells t_draft_n t_draft_cells t_twisting_modulus t_twisting_values) [.ref h_t]) (va_Qi (fun (r : Int32) (u : Int32 × (Nat → Int32) × Int32 × (Nat → Int32) × (Nat → Int32)) => K r u.1 u.2.1 u.2.2.1 u.2.2.2.1 u.2.2.2.2) (fun u t => BM G Y (va_A (w_X10_cover Y h_t B_t B_t_current B_t_draft B_t_twisting t_toldCount t_current_n t_current_cells t_draft_n t_draft_cells t_twisting_modulus t_twisting_values) sz) (w_X10_cover Y h_t B_t B_t_current B_t_draft B_t_twisting t_toldCount u.1 u.2.1 u.2.2.1 u.2.2.2.1 t_twisting_modulus u.2.2.2.2) t) (va_A (w_X10_cover Y h_t B_t B_t_current B_t_draft B_t_twisting t_toldCount t_current_n t_current_cells t_draft_n t_draft_cells t_twisting_modulus t_twisting_values) sz)) 0 0 (va_A (w_X10_cover Y h_t B_t B_t_current B_t_draft B_t_twisting t_toldCount t_current_n t_current_cells t_draft_n t_draft_cells t_twisting_modulus t_twisting_values) sz) := by
  refine Met.ofW (cc := cX10_cover) (maxL := 6) (ret := (some .int)) (by decide +kernel) rfl ?_
  intro p e s m args below meth c s₁ B hml hv
  obtain ⟨rfl, hsz, hP, hK, hD0, hE⟩ := hv
  have hts := atoms_spec (ws := wsX10_cover) B.pre
  have hown : s.vm.findClass RX10 = some m.cls := findClass_of_methodNamed B.named
  have hlocks := B.notSynchronized
  subst hsz
  have hD := hD0.self (sz := s.heap.size)
  exact wk_X10_cover h_t B_t B_t_current B_t_draft B_t_twisting t_toldCount t_current_n t_current_cells t_draft_n t_draft_cells t_twisting_modulus t_twisting_values B.exec B.bytes hml hown hts hK hE (fun q h => Or.inr h) (Nat.le_refl _) (Nat.le_refl _) (fun r t_current_n t_current_cells t_draft_n t_draft_cells t_twisting_values H locs ls pc hP hD hS hk hd => W.iret (v := r) B.exec B.bytes B.returns (fun t ht hW => ⟨⟨r, (t_current_n, t_current_cells, t_draft_n, t_draft_cells, t_twisting_values), rfl, hk, by rw [ht]; exact hP, va_K.moved hW.alike hK, hD⟩, hS.F ht⟩) hS.2.2 hd) hP hD h

abbrev w_X10_power (Y : Nat → ClassId) (h_t : Nat) (B_t : Nat → Nat) (B_t_classes : Nat → Nat) (B_t_current : Nat → Nat) (B_t_solver : Nat → Nat) (t_toldCount : Int32) (t_classes_n : Int32) (t_classes_leader : Nat → Int32) (t_classes_numbers : Nat → Int32) (t_current_n : Int32) (t_current_cells : Nat → Int32) (t_solver_things : Int32) (t_solver_unknowns : Int32) (t_solver_prime : Int32) (t_solver_leads : Int64) (t_solver_equation : Nat → Int32) (t_solver_steps : Nat → Int32) : va_W := [(h_t, .inr (9, [.ref (B_t 0), .ref (B_t 1), .ref (B_t 2), .ref (B_t 3), .ref (B_t 4), .ref (B_t 5), .ref (B_t 6), .ref (B_t 7), .ref (B_t 8), .ref (B_t 9), .ref (B_t 10), .ref (B_t 11), .ref (B_t 12), .ref (B_t 13), .int t_toldCount])), ((B_t 6), .inr (1, [.ref (B_t_classes 0), .ref (B_t_classes 1), .int t_classes_n])), ((B_t_classes 0), .inl (Y 0, 8, .inl t_classes_leader)), ((B_t_classes 1), .inl (Y 0, 8, .inl t_classes_numbers)), ((B_t 0), .inr (6, [.ref (B_t_current 0), .int t_current_n])), ((B_t_current 0), .inl (Y 0, 64, .inl t_current_cells)), ((B_t 10), .inr (5, [.ref (B_t_solver 0), .ref (B_t_solver 1), .int t_solver_things, .int t_solver_unknowns, .int t_solver_prime, .long t_solver_leads])), ((B_t_solver 1), .inl (Y 0, 64, .inl t_solver_equation)), ((B_t_solver 0), .inl (Y 0, 4096, .inl t_solver_steps))]

set_option maxHeartbeats 20000000 in
set_option maxRecDepth 100000 in
theorem wk_X10_power {p : Program} {l : Launch} {e : Env} {R : Room} {s : State} {m : MethodId} {args : Array Value} {below : List Frame} {meth : Method} {c : Code} {Q : State → Prop} {G : va_G} {Y : Nat → ClassId} {tF : Nat} {A : Nat → Prop} (h_t : Nat) (B_t : Nat → Nat) (B_t_classes : Nat → Nat) (B_t_current : Nat → Nat) (B_t_solver : Nat → Nat) (t_toldCount : Int32) (t_classes_n : Int32) (t_classes_leader : Nat → Int32) (t_classes_numbers : Nat → Int32) (t_current_n : Int32) (t_current_cells : Nat → Int32) (t_solver_things : Int32) (t_solver_unknowns : Int32) (t_solver_prime : Int32) (t_solver_leads : Int64) (t_solver_equation : Nat → Int32) (t_solver_steps : Nat → Int32) (x1 : Int32) (x2 : Int32) {K : Int32 → Int32 → (Nat → Int32) → (Nat → Int32) → Int32 → Int32 → Int32 → Int64 → (Nat → Int32) → (Nat → Int32) → Prop} (hx : p.tables.exec = Jvm.exec) (hb : c.code = cX10_power) (hml : c.maxLocals = 4) (hown : s.vm.findClass RX10 = some m.cls) (hts : ∀ w ∈ wsX10_power, w.before args s = true) (hK : va_K G vwCl (tyL Y) s) (hE : Ev A tF s) (hA : ∀ q, s.heap.size ≤ q → A q) (hRf : 4 ≤ R.frames) (hRl : 92 ≤ R.locals) (hret : ∀ (r : Int32) (t_classes_n : Int32) (t_classes_leader : Nat → Int32) (t_classes_numbers : Nat → Int32) (t_solver_things : Int32) (t_solver_unknowns : Int32) (t_solver_prime : Int32) (t_solver_leads : Int64) (t_solver_equation : Nat → Int32) (t_solver_steps : Nat → Int32) (H : Heap) (locs : List Loc) (ls : Array Slot) (pc : Nat), va_P G vwCl (w_X10_power Y h_t B_t B_t_classes B_t_current B_t_solver t_toldCount t_classes_n t_classes_leader t_classes_numbers t_current_n t_current_cells t_solver_things t_solver_unknowns t_solver_prime t_solver_leads t_solver_equation t_solver_steps) H → va_D A (w_X10_power Y h_t B_t B_t_classes B_t_current B_t_solver t_toldCount t_classes_n t_classes_leader t_classes_numbers t_current_n t_current_cells t_solver_things t_solver_unknowns t_solver_prime t_solver_leads t_solver_equation t_solver_steps) → va_S A s.heap H locs → K r t_classes_n t_classes_leader t_classes_numbers t_solver_things t_solver_unknowns t_solver_prime t_solver_leads t_solver_equation t_solver_steps → decode cX10_power pc = .ok (.ireturn, 1) → W p l e R s m args below meth c H locs 0 0 Q (F0 m pc ls [.int r])) (hP : va_P G vwCl (w_X10_power Y h_t B_t B_t_classes B_t_current B_t_solver t_toldCount t_classes_n t_classes_leader t_classes_numbers t_current_n t_current_cells t_solver_things t_solver_unknowns t_solver_prime t_solver_leads t_solver_equation t_solver_steps) s.heap) (hD : va_D A (w_X10_power Y h_t B_t B_t_classes B_t_current B_t_solver t_toldCount t_classes_n t_classes_leader t_classes_numbers t_current_n t_current_cells t_solver_things t_solver_unknowns t_solver_prime t_solver_leads t_solver_equation t_solver_steps)) (h : pX10_power t_classes_n t_classes_leader t_classes_numbers t_current_n t_current_cells t_solver_things t_solver_unknowns t_solver_prime t_solver_leads t_solver_equation t_solver_steps x1 x2 K) : W p l e R s m args below meth c s.heap [] 0 0 Q (entryFrame m ([.ref h_t, .int x1, .int x2] : List Value).toArray 4) := by
  have inX10 : ∀ w ∈ u_ws RX10 TX10 15, w ∈ wsX10_power := by decide +kernel
  have inX7 : ∀ w ∈ u_ws RX7 TX7 2, w ∈ wsX10_power := by decide +kernel
  have hf14 := hts (.fieldLink RX10 14 "RackBench" "current" "LRackBench$Table;") (by decide +kernel)
  have hf73 := hts (.fieldLink RX10 73 "RackBench" "solver" "LRackBench$Solver;") (by decide +kernel)
  have hl := lv_entry ([.ref h_t, .int x1, .int x2]) (n := 4) (Nat.le_of_ble_eq_true rfl)
  rw [lg_entry_eq]
  generalize (lg_sl ([.ref h_t, .int x1, .int x2]) ++ List.replicate (4 - (lg_sl ([.ref h_t, .int x1, .int x2])).length) Slot.unset).toArray = ls at hl ⊢
  have hl : lv_has ls 4 [(0, .ref h_t), (1, .int x1), (2, .int x2)] := hl
  generalize hH0 : s.heap = H at hP ⊢
  have hS : va_S A s.heap H [] := by rw [← hH0]; exact va_S.rf
  clear hH0
  generalize ([] : List Loc) = locs at hS ⊢
  have J26 : ∀ (x1 : Int32) (x2 : Int32) (s0 : Int32) (t_classes_n : Int32) (t_classes_leader : Nat → Int32) (t_classes_numbers : Nat → Int32) (t_solver_things : Int32) (t_solver_unknowns : Int32) (t_solver_prime : Int32) (t_solver_leads : Int64) (t_solver_equation : Nat → Int32) (t_solver_steps : Nat → Int32) (H : Heap) (locs : List Loc) (ls : Array Slot), pX10_power_26 t_current_n t_current_cells K x1 x2 s0 t_classes_n t_classes_leader t_classes_numbers t_solver_things t_solver_unknowns t_solver_prime t_solver_leads t_solver_equation t_solver_steps → va_P G vwCl (w_X10_power Y h_t B_t B_t_classes B_t_current B_t_solver t_toldCount t_classes_n t_classes_leader t_classes_numbers t_current_n t_current_cells t_solver_things t_solver_unknowns t_solver_prime t_solver_leads t_solver_equation t_solver_steps) H → va_D A (w_X10_power Y h_t B_t B_t_classes B_t_current B_t_solver t_toldCount t_classes_n t_classes_leader t_classes_numbers t_current_n t_current_cells t_solver_things t_solver_unknowns t_solver_prime t_solver_leads t_solver_equation t_solver_steps) → va_S A s.heap H locs → lv_has ls 4 [(0, .ref h_t), (1, .int x1), (2, .int x2)] → W p l e R s m args below meth c H locs 0 0 Q (F0 m 26 ls [.int s0]) := by
    intro x1 x2 s0 t_classes_n t_classes_leader t_classes_numbers t_solver_things t_solver_unknowns t_solver_prime t_solver_leads t_solver_equation t_solver_steps H locs ls h hP hD hS hl
    refine lv_istore_n (lv' := [(3, .int s0), (0, .ref h_t), (1, .int x1), (2, .int x2)]) hx hb dX10_power_26 rfl hl (by decide) rfl (fun ls hl => ?_)
    refine lv_iload_n hx hb dX10_power_27 rfl (lv_at hl 0 rfl) ?_
    obtain ⟨ht, hf⟩ := h
    refine lv_if_eq (tgt := 50) hx hb dX10_power_28 (by decide) (fun c9 => ?_) (fun c9 => ?_)
    · have h := ht c9
      refine lv_iconst (v := -1) hx hb dX10_power_50 (by decide) ?_
      exact hret (-1 : Int32) t_classes_n t_classes_leader t_classes_numbers t_solver_things t_solver_unknowns t_solver_prime t_solver_leads t_solver_equation t_solver_steps H locs ls _ hP hD hS h dX10_power_51
    · have h := hf c9
      refine lv_iload_n hx hb dX10_power_31 rfl (lv_at hl 3 rfl) ?_
      obtain ⟨ht, hf⟩ := h
      refine lv_if_lt (tgt := 50) hx hb dX10_power_32 (by decide) (fun c9 => ?_) (fun c9 => ?_)
      · have h := ht c9
        refine lv_iconst (v := -1) hx hb dX10_power_50 (by decide) ?_
        exact hret (-1 : Int32) t_classes_n t_classes_leader t_classes_numbers t_solver_things t_solver_unknowns t_solver_prime t_solver_leads t_solver_equation t_solver_steps H locs ls _ hP hD hS h dX10_power_51
      · have h := hf c9
        refine lv_iload_n hx hb dX10_power_35 rfl (lv_at hl 3 rfl) ?_
        refine lv_iconst (v := 1) hx hb dX10_power_36 (by decide) ?_
        obtain ⟨ht, hf⟩ := h
        refine lv_icmp_gt (tgt := 50) hx hb dX10_power_37 (by decide) (fun c9 => ?_) (fun c9 => ?_)
        · have h := ht c9
          refine lv_iconst (v := -1) hx hb dX10_power_50 (by decide) ?_
          exact hret (-1 : Int32) t_classes_n t_classes_leader t_classes_numbers t_solver_things t_solver_unknowns t_solver_prime t_solver_leads t_solver_equation t_solver_steps H locs ls _ hP hD hS h dX10_power_51
        · have h := hf c9
          refine lv_aload_n hx hb dX10_power_40 rfl (lv_at hl 1 rfl) ?_
          refine va_get (D := G) (ci := 9) (v := .ref (B_t 0)) (C := RX10) (T := TX10) (N := 15) hx hb hts inX10 hown hK hP 0 rfl rfl 0 (by decide) hf14 (fun _ h9 => h9) rfl dX10_power_41 ?_
          refine mc_iV ⟨hx, hb, hml, hown, hts⟩ hK hE hA hP hD hS (c_X7_isRack l G Y tF H.size (B_t 0) B_t_current t_current_n t_current_cells h) (cwV 0 hts gX10_power_X7_isRack rfl rfl rfl (by decide +kernel) ⟨Nat.le_trans (by decide) hRf, Nat.le_trans (by decide) hRl⟩) (fun u => (w_X10_power Y h_t B_t B_t_classes B_t_current B_t_solver t_toldCount t_classes_n t_classes_leader t_classes_numbers t_current_n t_current_cells t_solver_things t_solver_unknowns t_solver_prime t_solver_leads t_solver_equation t_solver_steps)) [4, 5] [0, 1, 2, 3, 6, 7, 8] [0, 1, 2, 3, 7, 8, 4, 5, 6] rfl rfl rfl rfl (by decide) (fun _ => rfl) rfl 4 6 rfl rfl rfl rfl hl.1 rfl (Nat.le_of_ble_eq_true rfl) dX10_power_44 (fun r44 u H locs h hP hD hS => ?_)
          try dsimp only at h
          have hP : va_P G vwCl (w_X10_power Y h_t B_t B_t_classes B_t_current B_t_solver t_toldCount t_classes_n t_classes_leader t_classes_numbers t_current_n t_current_cells t_solver_things t_solver_unknowns t_solver_prime t_solver_leads t_solver_equation t_solver_steps) H := hP
          have hD : va_D A (w_X10_power Y h_t B_t B_t_classes B_t_current B_t_solver t_toldCount t_classes_n t_classes_leader t_classes_numbers t_current_n t_current_cells t_solver_things t_solver_unknowns t_solver_prime t_solver_leads t_solver_equation t_solver_steps) := hD
          obtain ⟨ht, hf⟩ := h
          refine lv_if_ne (tgt := 52) hx hb dX10_power_47 (by decide) (fun c9 => ?_) (fun c9 => ?_)
          · have h := ht c9
            refine lv_iload_n hx hb dX10_power_52 rfl (lv_at hl 3 rfl) ?_
            obtain ⟨ht, hf⟩ := h
            refine lv_if_ne (tgt := 69) hx hb dX10_power_53 (by decide) (fun c9 => ?_) (fun c9 => ?_)
            · have h := ht c9
              refine lv_aload_n hx hb dX10_power_69 rfl (lv_at hl 1 rfl) ?_
              refine va_get (D := G) (ci := 9) (v := .ref (B_t 0)) (C := RX10) (T := TX10) (N := 15) hx hb hts inX10 hown hK hP 0 rfl rfl 0 (by decide) hf14 (fun _ h9 => h9) rfl dX10_power_70 ?_
              refine va_getN (D := G) (ci := 6) (v := .int t_current_n) (C := RX7) (T := TX7) (N := 2) hx hb hts inX7 hown hK hP 4 rfl rfl 1 (by decide) (hE.nest args 0 _ rfl) (fun _ h9 => h9) rfl dX10_power_73 ?_
              refine lv_aload_n hx hb dX10_power_76 rfl (lv_at hl 1 rfl) ?_
              refine mc_iV ⟨hx, hb, hml, hown, hts⟩ hK hE hA hP hD hS (c_X10_splitIntoOrbits l G Y tF H.size h_t B_t B_t_classes B_t_current t_toldCount t_classes_n t_classes_leader t_classes_numbers t_current_n t_current_cells h) (cwV 0 hts gX10_power_X10_splitIntoOrbits rfl rfl rfl (by decide +kernel) ⟨Nat.le_trans (by decide) hRf, Nat.le_trans (by decide) hRl⟩) (fun u => (w_X10_power Y h_t B_t B_t_classes B_t_current B_t_solver t_toldCount u.1 u.2.1 u.2.2 t_current_n t_current_cells t_solver_things t_solver_unknowns t_solver_prime t_solver_leads t_solver_equation t_solver_steps)) [0, 1, 2, 3, 4, 5] [6, 7, 8] [3, 4, 5, 6, 7, 8, 0, 1, 2] rfl rfl rfl rfl (by decide) (fun _ => rfl) rfl 0 9 rfl rfl rfl rfl hl.1 rfl (Nat.le_of_ble_eq_true rfl) dX10_power_77 (fun r77 u H locs h hP hD hS => ?_)
              obtain ⟨t_classes_n_77, t_classes_leader_77, t_classes_numbers_77⟩ := u
              try dsimp only at h
              have hP : va_P G vwCl (w_X10_power Y h_t B_t B_t_classes B_t_current B_t_solver t_toldCount t_classes_n_77 t_classes_leader_77 t_classes_numbers_77 t_current_n t_current_cells t_solver_things t_solver_unknowns t_solver_prime t_solver_leads t_solver_equation t_solver_steps) H := hP
              have hD : va_D A (w_X10_power Y h_t B_t B_t_classes B_t_current B_t_solver t_toldCount t_classes_n_77 t_classes_leader_77 t_classes_numbers_77 t_current_n t_current_cells t_solver_things t_solver_unknowns t_solver_prime t_solver_leads t_solver_equation t_solver_steps) := hD
              refine lv_isub hx hb dX10_power_80 ?_
              exact hret (t_current_n - r77) t_classes_n_77 t_classes_leader_77 t_classes_numbers_77 t_solver_things t_solver_unknowns t_solver_prime t_solver_leads t_solver_equation t_solver_steps H locs ls _ hP hD hS h dX10_power_81
            · have h := hf c9
              refine lv_aload_n hx hb dX10_power_56 rfl (lv_at hl 1 rfl) ?_
              refine va_get (D := G) (ci := 9) (v := .ref (B_t 10)) (C := RX10) (T := TX10) (N := 15) hx hb hts inX10 hown hK hP 0 rfl rfl 10 (by decide) hf73 (fun _ h9 => h9) rfl dX10_power_57 ?_
              refine lv_aload_n hx hb dX10_power_60 rfl (lv_at hl 1 rfl) ?_
              refine va_get (D := G) (ci := 9) (v := .ref (B_t 0)) (C := RX10) (T := TX10) (N := 15) hx hb hts inX10 hown hK hP 0 rfl rfl 0 (by decide) hf14 (fun _ h9 => h9) rfl dX10_power_61 ?_
              refine lv_iload_n hx hb dX10_power_64 rfl (lv_at hl 2 rfl) ?_
              refine mc_iV ⟨hx, hb, hml, hown, hts⟩ hK hE hA hP hD hS (c_X6_closedPower l G Y tF H.size (B_t 10) (B_t 0) B_t_solver B_t_current t_solver_things t_solver_unknowns t_solver_prime t_solver_leads t_solver_equation t_solver_steps t_current_n t_current_cells x1 h) (cwV 2 hts gX10_power_X6_closedPower rfl rfl rfl (by decide +kernel) ⟨Nat.le_trans (by decide) hRf, Nat.le_trans (by decide) hRl⟩) (fun u => (w_X10_power Y h_t B_t B_t_classes B_t_current B_t_solver t_toldCount t_classes_n t_classes_leader t_classes_numbers t_current_n t_current_cells u.1 u.2.1 u.2.2.1 u.2.2.2.1 u.2.2.2.2.1 u.2.2.2.2.2)) [6, 7, 8, 4, 5] [0, 1, 2, 3] [0, 1, 2, 3, 7, 8, 4, 5, 6] rfl rfl rfl rfl (by decide) (fun _ => rfl) rfl 6 5 rfl rfl rfl rfl hl.1 rfl (Nat.le_of_ble_eq_true rfl) dX10_power_65 (fun r65 u H locs h hP hD hS => ?_)
              obtain ⟨t_solver_things_65, t_solver_unknowns_65, t_solver_prime_65, t_solver_leads_65, t_solver_equation_65, t_solver_steps_65⟩ := u
              try dsimp only at h
              have hP : va_P G vwCl (w_X10_power Y h_t B_t B_t_classes B_t_current B_t_solver t_toldCount t_classes_n t_classes_leader t_classes_numbers t_current_n t_current_cells t_solver_things_65 t_solver_unknowns_65 t_solver_prime_65 t_solver_leads_65 t_solver_equation_65 t_solver_steps_65) H := hP
              have hD : va_D A (w_X10_power Y h_t B_t B_t_classes B_t_current B_t_solver t_toldCount t_classes_n t_classes_leader t_classes_numbers t_current_n t_current_cells t_solver_things_65 t_solver_unknowns_65 t_solver_prime_65 t_solver_leads_65 t_solver_equation_65 t_solver_steps_65) := hD
              exact hret r65 t_classes_n t_classes_leader t_classes_numbers t_solver_things_65 t_solver_unknowns_65 t_solver_prime_65 t_solver_leads_65 t_solver_equation_65 t_solver_steps_65 H locs ls _ hP hD hS h dX10_power_68
          · have h := hf c9
            refine lv_iconst (v := -1) hx hb dX10_power_50 (by decide) ?_
            exact hret (-1 : Int32) t_classes_n t_classes_leader t_classes_numbers t_solver_things t_solver_unknowns t_solver_prime t_solver_leads t_solver_equation t_solver_steps H locs ls _ hP hD hS h dX10_power_51
  have J21 : ∀ (x1 : Int32) (x2 : Int32) (t_classes_n : Int32) (t_classes_leader : Nat → Int32) (t_classes_numbers : Nat → Int32) (t_solver_things : Int32) (t_solver_unknowns : Int32) (t_solver_prime : Int32) (t_solver_leads : Int64) (t_solver_equation : Nat → Int32) (t_solver_steps : Nat → Int32) (H : Heap) (locs : List Loc) (ls : Array Slot), pX10_power_21 t_current_n t_current_cells K x1 x2 t_classes_n t_classes_leader t_classes_numbers t_solver_things t_solver_unknowns t_solver_prime t_solver_leads t_solver_equation t_solver_steps → va_P G vwCl (w_X10_power Y h_t B_t B_t_classes B_t_current B_t_solver t_toldCount t_classes_n t_classes_leader t_classes_numbers t_current_n t_current_cells t_solver_things t_solver_unknowns t_solver_prime t_solver_leads t_solver_equation t_solver_steps) H → va_D A (w_X10_power Y h_t B_t B_t_classes B_t_current B_t_solver t_toldCount t_classes_n t_classes_leader t_classes_numbers t_current_n t_current_cells t_solver_things t_solver_unknowns t_solver_prime t_solver_leads t_solver_equation t_solver_steps) → va_S A s.heap H locs → lv_has ls 4 [(0, .ref h_t), (1, .int x1), (2, .int x2)] → W p l e R s m args below meth c H locs 0 0 Q (F0 m 21 ls []) := by
    intro x1 x2 t_classes_n t_classes_leader t_classes_numbers t_solver_things t_solver_unknowns t_solver_prime t_solver_leads t_solver_equation t_solver_steps H locs ls h hP hD hS hl
    refine lv_iconst (v := 1) hx hb dX10_power_21 (by decide) ?_
    refine lv_goto (tgt := 26) hx hb dX10_power_22 (by decide) ?_
    exact J26 x1 x2 (1 : Int32) t_classes_n t_classes_leader t_classes_numbers t_solver_things t_solver_unknowns t_solver_prime t_solver_leads t_solver_equation t_solver_steps H locs ls h hP hD hS (lv_sub hl [0, 1, 2] rfl)
  refine lv_iload_n hx hb dX10_power_0 rfl (lv_at hl 1 rfl) ?_
  refine lv_iconst (v := 2) hx hb dX10_power_1 (by decide) ?_
  obtain ⟨ht, hf⟩ := h
  refine lv_icmp_eq (tgt := 21) hx hb dX10_power_2 (by decide) (fun c9 => ?_) (fun c9 => ?_)
  · have h := ht c9
    exact J21 x1 x2 t_classes_n t_classes_leader t_classes_numbers t_solver_things t_solver_unknowns t_solver_prime t_solver_leads t_solver_equation t_solver_steps H locs ls h hP hD hS (lv_sub hl [0, 1, 2] rfl)
  · have h := hf c9
    refine lv_iload_n hx hb dX10_power_5 rfl (lv_at hl 1 rfl) ?_
    refine lv_iconst (v := 3) hx hb dX10_power_6 (by decide) ?_
    obtain ⟨ht, hf⟩ := h
    refine lv_icmp_eq (tgt := 21) hx hb dX10_power_7 (by decide) (fun c9 => ?_) (fun c9 => ?_)
    · have h := ht c9
      exact J21 x1 x2 t_classes_n t_classes_leader t_classes_numbers t_solver_things t_solver_unknowns t_solver_prime t_solver_leads t_solver_equation t_solver_steps H locs ls h hP hD hS (lv_sub hl [0, 1, 2] rfl)
    · have h := hf c9
      refine lv_iload_n hx hb dX10_power_10 rfl (lv_at hl 1 rfl) ?_
      refine lv_iconst (v := 5) hx hb dX10_power_11 (by decide) ?_
      obtain ⟨ht, hf⟩ := h
      refine lv_icmp_eq (tgt := 21) hx hb dX10_power_12 (by decide) (fun c9 => ?_) (fun c9 => ?_)
      · have h := ht c9
        exact J21 x1 x2 t_classes_n t_classes_leader t_classes_numbers t_solver_things t_solver_unknowns t_solver_prime t_solver_leads t_solver_equation t_solver_steps H locs ls h hP hD hS (lv_sub hl [0, 1, 2] rfl)
      · have h := hf c9
        refine lv_iload_n hx hb dX10_power_15 rfl (lv_at hl 1 rfl) ?_
        refine lv_bipush (v := 7) hx hb dX10_power_16 (by decide) ?_
        obtain ⟨ht, hf⟩ := h
        refine lv_icmp_ne (tgt := 25) hx hb dX10_power_18 (by decide) (fun c9 => ?_) (fun c9 => ?_)
        · have h := ht c9
          refine lv_iconst (v := 0) hx hb dX10_power_25 (by decide) ?_
          exact J26 x1 x2 (0 : Int32) t_classes_n t_classes_leader t_classes_numbers t_solver_things t_solver_unknowns t_solver_prime t_solver_leads t_solver_equation t_solver_steps H locs ls h hP hD hS (lv_sub hl [0, 1, 2] rfl)
        · have h := hf c9
          exact J21 x1 x2 t_classes_n t_classes_leader t_classes_numbers t_solver_things t_solver_unknowns t_solver_prime t_solver_leads t_solver_equation t_solver_steps H locs ls h hP hD hS (lv_sub hl [0, 1, 2] rfl)

set_option maxHeartbeats 20000000 in
set_option maxRecDepth 100000 in
theorem c_X10_power (l : Launch) (G : va_G) (Y : Nat → ClassId) (tF sz : Nat) (h_t : Nat) (B_t : Nat → Nat) (B_t_classes : Nat → Nat) (B_t_current : Nat → Nat) (B_t_solver : Nat → Nat) (t_toldCount : Int32) (t_classes_n : Int32) (t_classes_leader : Nat → Int32) (t_classes_numbers : Nat → Int32) (t_current_n : Int32) (t_current_cells : Nat → Int32) (t_solver_things : Int32) (t_solver_unknowns : Int32) (t_solver_prime : Int32) (t_solver_leads : Int64) (t_solver_equation : Nat → Int32) (t_solver_steps : Nat → Int32) (x1 : Int32) (x2 : Int32) {K : Int32 → Int32 → (Nat → Int32) → (Nat → Int32) → Int32 → Int32 → Int32 → Int64 → (Nat → Int32) → (Nat → Int32) → Prop} (h : pX10_power t_classes_n t_classes_leader t_classes_numbers t_current_n t_current_cells t_solver_things t_solver_unknowns t_solver_prime t_solver_leads t_solver_equation t_solver_steps x1 x2 K) : Met l yX10_power wsX10_power ({ frames := 4, cells := 0, slots := 0, locals := 92 }) (PcM G Y tF sz (w_X10_power Y h_t B_t B_t_classes B_t_current B_t_solver t_toldCount t_classes_n t_classes_leader t_classes_numbers t_current_n t_current_cells t_solver_things t_solver_unknowns t_solver_prime t_solver_leads t_solver_equation t_solver_steps) [.ref h_t, .int x1, .int x2]) (va_Qi (fun (r : Int32) (u : Int32 × (Nat → Int32) × (Nat → Int32) × Int32 × Int32 × Int32 × Int64 × (Nat → Int32) × (Nat → Int32)) => K r u.1 u.2.1 u.2.2.1 u.2.2.2.1 u.2.2.2.2.1 u.2.2.2.2.2.1 u.2.2.2.2.2.2.1 u.2.2.2.2.2.2.2.1 u.2.2.2.2.2.2.2.2) (fun u t => BM G Y (va_A (w_X10_power Y h_t B_t B_t_classes B_t_current B_t_solver t_toldCount t_classes_n t_classes_leader t_classes_numbers t_current_n t_current_cells t_solver_things t_solver_unknowns t_solver_prime t_solver_leads t_solver_equation t_solver_steps) sz) (w_X10_power Y h_t B_t B_t_classes B_t_current B_t_solver t_toldCount u.1 u.2.1 u.2.2.1 t_current_n t_current_cells u.2.2.2.1 u.2.2.2.2.1 u.2.2.2.2.2.1 u.2.2.2.2.2.2.1 u.2.2.2.2.2.2.2.1 u.2.2.2.2.2.2.2.2) t) (va_A (w_X10_power Y h_t B_t B_t_classes B_t_current B_t_solver t_toldCount t_classes_n t_classes_leader t_classes_numbers t_current_n t_current_cells t_solver_things t_solver_unknowns t_solver_prime t_solver_leads t_solver_equation t_solver_steps) sz)) 0 0 (va_A (w_X10_power Y h_t B_t B_t_classes B_t_current B_t_solver t_toldCount t_classes_n t_classes_leader t_classes_numbers t_current_n t_current_cells t_solver_things t_solver_unknowns t_solver_prime t_solver_leads t_solver_equation t_solver_steps) sz) := by
  refine Met.ofW (cc := cX10_power) (maxL := 4) (ret := (some .int)) (by decide +kernel) rfl ?_
  intro p e s m args below meth c s₁ B hml hv
  obtain ⟨rfl, hsz, hP, hK, hD0, hE⟩ := hv
  have hts := atoms_spec (ws := wsX10_power) B.pre
  have hown : s.vm.findClass RX10 = some m.cls := findClass_of_methodNamed B.named
  have hlocks := B.notSynchronized
  subst hsz
  have hD := hD0.self (sz := s.heap.size)
  exact wk_X10_power h_t B_t B_t_classes B_t_current B_t_solver t_toldCount t_classes_n t_classes_leader t_classes_numbers t_current_n t_current_cells t_solver_things t_solver_unknowns t_solver_prime t_solver_leads t_solver_equation t_solver_steps x1 x2 B.exec B.bytes hml hown hts hK hE (fun q h => Or.inr h) (Nat.le_refl _) (Nat.le_refl _) (fun r t_classes_n t_classes_leader t_classes_numbers t_solver_things t_solver_unknowns t_solver_prime t_solver_leads t_solver_equation t_solver_steps H locs ls pc hP hD hS hk hd => W.iret (v := r) B.exec B.bytes B.returns (fun t ht hW => ⟨⟨r, (t_classes_n, t_classes_leader, t_classes_numbers, t_solver_things, t_solver_unknowns, t_solver_prime, t_solver_leads, t_solver_equation, t_solver_steps), rfl, hk, by rw [ht]; exact hP, va_K.moved hW.alike hK, hD⟩, hS.F ht⟩) hS.2.2 hd) hP hD h
