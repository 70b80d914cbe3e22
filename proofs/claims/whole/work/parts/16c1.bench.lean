abbrev w_X10_strands (Y : Nat → ClassId) (h_t : Nat) (B_t : Nat → Nat) (B_t_braid : Nat → Nat) (t_toldCount : Int32) (t_braid_width : Int32) (t_braid_length : Int32) : va_W := [(h_t, .inr (9, [.ref (B_t 0), .ref (B_t 1), .ref (B_t 2), .ref (B_t 3), .ref (B_t 4), .ref (B_t 5), .ref (B_t 6), .ref (B_t 7), .ref (B_t 8), .ref (B_t 9), .ref (B_t 10), .ref (B_t 11), .ref (B_t 12), .ref (B_t 13), .int t_toldCount])), ((B_t 5), .inr (0, [.ref (B_t_braid 0), .ref (B_t_braid 1), .ref (B_t_braid 2), .ref (B_t_braid 3), .int t_braid_width, .int t_braid_length]))]

set_option maxHeartbeats 20000000 in
set_option maxRecDepth 100000 in
theorem wk_X10_strands {p : Program} {l : Launch} {e : Env} {R : Room} {s : State} {m : MethodId} {args : Array Value} {below : List Frame} {meth : Method} {c : Code} {Q : State → Prop} {G : va_G} {Y : Nat → ClassId} {tF : Nat} {A : Nat → Prop} (h_t : Nat) (B_t : Nat → Nat) (B_t_braid : Nat → Nat) (t_toldCount : Int32) (t_braid_width : Int32) (t_braid_length : Int32) (x1 : Int32) {K : Int32 → Int32 → Int32 → Prop} (hx : p.tables.exec = Jvm.exec) (hb : c.code = cX10_strands) (hml : c.maxLocals = 2) (hown : s.vm.findClass RX10 = some m.cls) (hts : ∀ w ∈ wsX10_strands, w.before args s = true) (hK : va_K G vwCl (tyL Y) s) (hE : Ev A tF s) (hA : ∀ q, s.heap.size ≤ q → A q) (hRf : 0 ≤ R.frames) (hRl : 0 ≤ R.locals) (hret : ∀ (r : Int32) (t_braid_width : Int32) (t_braid_length : Int32) (H : Heap) (locs : List Loc) (ls : Array Slot) (pc : Nat), va_P G vwCl (w_X10_strands Y h_t B_t B_t_braid t_toldCount t_braid_width t_braid_length) H → va_D A (w_X10_strands Y h_t B_t B_t_braid t_toldCount t_braid_width t_braid_length) → va_S A s.heap H locs → zb r → K r t_braid_width t_braid_length → decode cX10_strands pc = .ok (.ireturn, 1) → W p l e R s m args below meth c H locs 0 0 Q (F0 m pc ls [.int r])) (hP : va_P G vwCl (w_X10_strands Y h_t B_t B_t_braid t_toldCount t_braid_width t_braid_length) s.heap) (hD : va_D A (w_X10_strands Y h_t B_t B_t_braid t_toldCount t_braid_width t_braid_length)) (h : pX10_strands t_braid_width t_braid_length x1 K) : W p l e R s m args below meth c s.heap [] 0 0 Q (entryFrame m ([.ref h_t, .int x1] : List Value).toArray 2) := by
  have inX0 : ∀ w ∈ u_ws RX0 TX0 6, w ∈ wsX10_strands := by decide +kernel
  have inX10 : ∀ w ∈ u_ws RX10 TX10 15, w ∈ wsX10_strands := by decide +kernel
  have hf38 := hts (.fieldLink RX10 38 "RackBench" "braid" "LRackBench$Braid;") (by decide +kernel)
  have hl := lv_entry ([.ref h_t, .int x1]) (n := 2) (Nat.le_of_ble_eq_true rfl)
  rw [lg_entry_eq]
  generalize (lg_sl ([.ref h_t, .int x1]) ++ List.replicate (2 - (lg_sl ([.ref h_t, .int x1])).length) Slot.unset).toArray = ls at hl ⊢
  have hl : lv_has ls 2 [(0, .ref h_t), (1, .int x1)] := hl
  generalize hH0 : s.heap = H at hP ⊢
  have hS : va_S A s.heap H [] := by rw [← hH0]; exact va_S.rf
  clear hH0
  generalize ([] : List Loc) = locs at hS ⊢
  refine lv_iload_n hx hb dX10_strands_0 rfl (lv_at hl 1 rfl) ?_
  refine lv_iconst (v := 2) hx hb dX10_strands_1 (by decide) ?_
  obtain ⟨ht, hf⟩ := h
  refine lv_icmp_lt (tgt := 10) hx hb dX10_strands_2 (by decide) (fun c9 => ?_) (fun c9 => ?_)
  · have h := ht c9
    refine lv_iconst (v := 0) hx hb dX10_strands_10 (by decide) ?_
    obtain ⟨hz, h⟩ := h
    exact hret (0 : Int32) t_braid_width t_braid_length H locs ls _ hP hD hS hz h dX10_strands_11
  · have h := hf c9
    refine lv_iload_n hx hb dX10_strands_5 rfl (lv_at hl 1 rfl) ?_
    refine lv_iconst (v := 4) hx hb dX10_strands_6 (by decide) ?_
    obtain ⟨ht, hf⟩ := h
    refine lv_icmp_le (tgt := 12) hx hb dX10_strands_7 (by decide) (fun c9 => ?_) (fun c9 => ?_)
    · have h := ht c9
      refine lv_aload_n hx hb dX10_strands_12 rfl (lv_at hl 0 rfl) ?_
      refine va_get (D := G) (ci := 9) (v := .ref (B_t 5)) (C := RX10) (T := TX10) (N := 15) hx hb hts inX10 hown hK hP 0 rfl rfl 5 (by decide) hf38 (fun _ h9 => h9) rfl dX10_strands_13 ?_
      refine lv_iload_n hx hb dX10_strands_16 rfl (lv_at hl 1 rfl) ?_
      refine va_putN (D := G) (ci := 0) (v := .int x1) (ty := .int) (C := RX0) (T := TX0) (N := 6) hx hb hts inX0 tyX0 tyX0_ok nmX0 hown hK hP hD hS 1 rfl rfl 4 (by decide) (hE.nest args 2 _ rfl) (fun _ h9 => h9) rfl (by decide +kernel) rfl rfl (Nat.le_of_ble_eq_true rfl) dX10_strands_17 (fun H locs hP hD hS => ?_)
      have hP : va_P G vwCl (w_X10_strands Y h_t B_t B_t_braid t_toldCount x1 t_braid_length) H := hP
      have hD : va_D A (w_X10_strands Y h_t B_t B_t_braid t_toldCount x1 t_braid_length) := hD
      refine lv_aload_n hx hb dX10_strands_20 rfl (lv_at hl 0 rfl) ?_
      refine va_get (D := G) (ci := 9) (v := .ref (B_t 5)) (C := RX10) (T := TX10) (N := 15) hx hb hts inX10 hown hK hP 0 rfl rfl 5 (by decide) hf38 (fun _ h9 => h9) rfl dX10_strands_21 ?_
      refine lv_iconst (v := 0) hx hb dX10_strands_24 (by decide) ?_
      refine va_putN (D := G) (ci := 0) (v := .int (0 : Int32)) (ty := .int) (C := RX0) (T := TX0) (N := 6) hx hb hts inX0 tyX0 tyX0_ok nmX0 hown hK hP hD hS 1 rfl rfl 5 (by decide) (hE.nest args 3 _ rfl) (fun _ h9 => h9) rfl (by decide +kernel) rfl rfl (Nat.le_of_ble_eq_true rfl) dX10_strands_25 (fun H locs hP hD hS => ?_)
      have hP : va_P G vwCl (w_X10_strands Y h_t B_t B_t_braid t_toldCount x1 (0 : Int32)) H := hP
      have hD : va_D A (w_X10_strands Y h_t B_t B_t_braid t_toldCount x1 (0 : Int32)) := hD
      refine lv_iconst (v := 1) hx hb dX10_strands_28 (by decide) ?_
      obtain ⟨hz, h⟩ := h
      exact hret (1 : Int32) x1 (0 : Int32) H locs ls _ hP hD hS hz h dX10_strands_29
    · have h := hf c9
      refine lv_iconst (v := 0) hx hb dX10_strands_10 (by decide) ?_
      obtain ⟨hz, h⟩ := h
      exact hret (0 : Int32) t_braid_width t_braid_length H locs ls _ hP hD hS hz h dX10_strands_11

set_option maxHeartbeats 20000000 in
set_option maxRecDepth 100000 in
theorem c_X10_strands (l : Launch) (G : va_G) (Y : Nat → ClassId) (tF sz : Nat) (h_t : Nat) (B_t : Nat → Nat) (B_t_braid : Nat → Nat) (t_toldCount : Int32) (t_braid_width : Int32) (t_braid_length : Int32) (x1 : Int32) {K : Int32 → Int32 → Int32 → Prop} (h : pX10_strands t_braid_width t_braid_length x1 K) : Met l yX10_strands wsX10_strands ({ frames := 0, cells := 0, slots := 0, locals := 0 }) (PcM G Y tF sz (w_X10_strands Y h_t B_t B_t_braid t_toldCount t_braid_width t_braid_length) [.ref h_t, .int x1]) (va_Qi (fun (r : Int32) (u : Int32 × Int32) => K r u.1 u.2) (fun u t => BM G Y (va_A (w_X10_strands Y h_t B_t B_t_braid t_toldCount t_braid_width t_braid_length) sz) (w_X10_strands Y h_t B_t B_t_braid t_toldCount u.1 u.2) t) (va_A (w_X10_strands Y h_t B_t B_t_braid t_toldCount t_braid_width t_braid_length) sz)) 0 0 (va_A (w_X10_strands Y h_t B_t B_t_braid t_toldCount t_braid_width t_braid_length) sz) := by
  refine Met.ofW (cc := cX10_strands) (maxL := 2) (ret := (some .boolean)) (by decide +kernel) rfl ?_
  intro p e s m args below meth c s₁ B hml hv
  obtain ⟨rfl, hsz, hP, hK, hD0, hE⟩ := hv
  have hts := atoms_spec (ws := wsX10_strands) B.pre
  have hown : s.vm.findClass RX10 = some m.cls := findClass_of_methodNamed B.named
  have hlocks := B.notSynchronized
  subst hsz
  have hD := hD0.self (sz := s.heap.size)
  exact wk_X10_strands h_t B_t B_t_braid t_toldCount t_braid_width t_braid_length x1 B.exec B.bytes hml hown hts hK hE (fun q h => Or.inr h) (Nat.le_refl _) (Nat.le_refl _) (fun r t_braid_width t_braid_length H locs ls pc hP hD hS hz hk hd => W.zret (v := r) B.exec B.bytes B.returns hz.n (fun t ht hW => ⟨⟨r, (t_braid_width, t_braid_length), rfl, hk, by rw [ht]; exact hP, va_K.moved hW.alike hK, hD⟩, hS.F ht⟩) hS.2.2 hd) hP hD h

abbrev w_X10_letter (Y : Nat → ClassId) (h_t : Nat) (B_t : Nat → Nat) (B_t_braid : Nat → Nat) (t_toldCount : Int32) (t_braid_width : Int32) (t_braid_length : Int32) (t_braid_word : Nat → Int32) : va_W := [(h_t, .inr (9, [.ref (B_t 0), .ref (B_t 1), .ref (B_t 2), .ref (B_t 3), .ref (B_t 4), .ref (B_t 5), .ref (B_t 6), .ref (B_t 7), .ref (B_t 8), .ref (B_t 9), .ref (B_t 10), .ref (B_t 11), .ref (B_t 12), .ref (B_t 13), .int t_toldCount])), ((B_t 5), .inr (0, [.ref (B_t_braid 0), .ref (B_t_braid 1), .ref (B_t_braid 2), .ref (B_t_braid 3), .int t_braid_width, .int t_braid_length])), ((B_t_braid 0), .inl (Y 0, 24, .inl t_braid_word))]

set_option maxHeartbeats 20000000 in
set_option maxRecDepth 100000 in
theorem wk_X10_letter {p : Program} {l : Launch} {e : Env} {R : Room} {s : State} {m : MethodId} {args : Array Value} {below : List Frame} {meth : Method} {c : Code} {Q : State → Prop} {G : va_G} {Y : Nat → ClassId} {tF : Nat} {A : Nat → Prop} (h_t : Nat) (B_t : Nat → Nat) (B_t_braid : Nat → Nat) (t_toldCount : Int32) (t_braid_width : Int32) (t_braid_length : Int32) (t_braid_word : Nat → Int32) (x1 : Int32) {K : Int32 → Int32 → (Nat → Int32) → Prop} (hx : p.tables.exec = Jvm.exec) (hb : c.code = cX10_letter) (hml : c.maxLocals = 3) (hown : s.vm.findClass RX10 = some m.cls) (hts : ∀ w ∈ wsX10_letter, w.before args s = true) (hK : va_K G vwCl (tyL Y) s) (hE : Ev A tF s) (hA : ∀ q, s.heap.size ≤ q → A q) (hRf : 1 ≤ R.frames) (hRl : 21 ≤ R.locals) (hret : ∀ (r : Int32) (t_braid_length : Int32) (t_braid_word : Nat → Int32) (H : Heap) (locs : List Loc) (ls : Array Slot) (pc : Nat), va_P G vwCl (w_X10_letter Y h_t B_t B_t_braid t_toldCount t_braid_width t_braid_length t_braid_word) H → va_D A (w_X10_letter Y h_t B_t B_t_braid t_toldCount t_braid_width t_braid_length t_braid_word) → va_S A s.heap H locs → K r t_braid_length t_braid_word → decode cX10_letter pc = .ok (.ireturn, 1) → W p l e R s m args below meth c H locs 0 0 Q (F0 m pc ls [.int r])) (hP : va_P G vwCl (w_X10_letter Y h_t B_t B_t_braid t_toldCount t_braid_width t_braid_length t_braid_word) s.heap) (hD : va_D A (w_X10_letter Y h_t B_t B_t_braid t_toldCount t_braid_width t_braid_length t_braid_word)) (h : pX10_letter t_braid_width t_braid_length t_braid_word x1 K) : W p l e R s m args below meth c s.heap [] 0 0 Q (entryFrame m ([.ref h_t, .int x1] : List Value).toArray 3) := by
  have inX0 : ∀ w ∈ u_ws RX0 TX0 6, w ∈ wsX10_letter := by decide +kernel
  have inX10 : ∀ w ∈ u_ws RX10 TX10 15, w ∈ wsX10_letter := by decide +kernel
  have hf38 := hts (.fieldLink RX10 38 "RackBench" "braid" "LRackBench$Braid;") (by decide +kernel)
  have hl := lv_entry ([.ref h_t, .int x1]) (n := 3) (Nat.le_of_ble_eq_true rfl)
  rw [lg_entry_eq]
  generalize (lg_sl ([.ref h_t, .int x1]) ++ List.replicate (3 - (lg_sl ([.ref h_t, .int x1])).length) Slot.unset).toArray = ls at hl ⊢
  have hl : lv_has ls 3 [(0, .ref h_t), (1, .int x1)] := hl
  generalize hH0 : s.heap = H at hP ⊢
  have hS : va_S A s.heap H [] := by rw [← hH0]; exact va_S.rf
  clear hH0
  generalize ([] : List Loc) = locs at hS ⊢
  refine lv_aload_n hx hb dX10_letter_0 rfl (lv_at hl 0 rfl) ?_
  refine va_get (D := G) (ci := 9) (v := .ref (B_t 5)) (C := RX10) (T := TX10) (N := 15) hx hb hts inX10 hown hK hP 0 rfl rfl 5 (by decide) hf38 (fun _ h9 => h9) rfl dX10_letter_1 ?_
  refine va_getN (D := G) (ci := 0) (v := .int t_braid_width) (C := RX0) (T := TX0) (N := 6) hx hb hts inX0 hown hK hP 1 rfl rfl 4 (by decide) (hE.nest args 2 _ rfl) (fun _ h9 => h9) rfl dX10_letter_4 ?_
  refine lv_iconst (v := 1) hx hb dX10_letter_7 (by decide) ?_
  refine lv_isub hx hb dX10_letter_8 ?_
  refine lv_istore_n (lv' := [(2, .int (t_braid_width - (1 : Int32))), (0, .ref h_t), (1, .int x1)]) hx hb dX10_letter_9 rfl hl (by decide) rfl (fun ls hl => ?_)
  refine lv_iload_n hx hb dX10_letter_10 rfl (lv_at hl 2 rfl) ?_
  obtain ⟨ht, hf⟩ := h
  refine lv_if_eq (tgt := 37) hx hb dX10_letter_11 (by decide) (fun c9 => ?_) (fun c9 => ?_)
  · have h := ht c9
    refine lv_iconst (v := -1) hx hb dX10_letter_37 (by decide) ?_
    exact hret (-1 : Int32) t_braid_length t_braid_word H locs ls _ hP hD hS h dX10_letter_38
  · have h := hf c9
    refine lv_iload_n hx hb dX10_letter_14 rfl (lv_at hl 2 rfl) ?_
    refine lv_iload_n hx hb dX10_letter_15 rfl (lv_at hl 0 rfl) ?_
    refine lv_ineg hx hb dX10_letter_16 ?_
    obtain ⟨ht, hf⟩ := h
    refine lv_icmp_lt (tgt := 37) hx hb dX10_letter_17 (by decide) (fun c9 => ?_) (fun c9 => ?_)
    · have h := ht c9
      refine lv_iconst (v := -1) hx hb dX10_letter_37 (by decide) ?_
      exact hret (-1 : Int32) t_braid_length t_braid_word H locs ls _ hP hD hS h dX10_letter_38
    · have h := hf c9
      refine lv_iload_n hx hb dX10_letter_20 rfl (lv_at hl 2 rfl) ?_
      refine lv_iload_n hx hb dX10_letter_21 rfl (lv_at hl 0 rfl) ?_
      obtain ⟨ht, hf⟩ := h
      refine lv_icmp_gt (tgt := 37) hx hb dX10_letter_22 (by decide) (fun c9 => ?_) (fun c9 => ?_)
      · have h := ht c9
        refine lv_iconst (v := -1) hx hb dX10_letter_37 (by decide) ?_
        exact hret (-1 : Int32) t_braid_length t_braid_word H locs ls _ hP hD hS h dX10_letter_38
      · have h := hf c9
        refine lv_aload_n hx hb dX10_letter_25 rfl (lv_at hl 1 rfl) ?_
        refine va_get (D := G) (ci := 9) (v := .ref (B_t 5)) (C := RX10) (T := TX10) (N := 15) hx hb hts inX10 hown hK hP 0 rfl rfl 5 (by decide) hf38 (fun _ h9 => h9) rfl dX10_letter_26 ?_
        refine va_getN (D := G) (ci := 0) (v := .int t_braid_length) (C := RX0) (T := TX0) (N := 6) hx hb hts inX0 hown hK hP 1 rfl rfl 5 (by decide) (hE.nest args 3 _ rfl) (fun _ h9 => h9) rfl dX10_letter_29 ?_
        refine lv_bipush (v := 24) hx hb dX10_letter_32 (by decide) ?_
        obtain ⟨ht, hf⟩ := h
        refine lv_icmp_lt (tgt := 39) hx hb dX10_letter_34 (by decide) (fun c9 => ?_) (fun c9 => ?_)
        · have h := ht c9
          refine lv_aload_n hx hb dX10_letter_39 rfl (lv_at hl 1 rfl) ?_
          refine va_get (D := G) (ci := 9) (v := .ref (B_t 5)) (C := RX10) (T := TX10) (N := 15) hx hb hts inX10 hown hK hP 0 rfl rfl 5 (by decide) hf38 (fun _ h9 => h9) rfl dX10_letter_40 ?_
          refine lv_iload_n hx hb dX10_letter_43 rfl (lv_at hl 2 rfl) ?_
          refine mc_vV ⟨hx, hb, hml, hown, hts⟩ hK hE hA hP hD hS (c_X0_add l G Y tF H.size (B_t 5) B_t_braid t_braid_width t_braid_length t_braid_word x1 h) (cwV 1 hts gX10_letter_X0_add rfl rfl rfl (by decide +kernel) ⟨Nat.le_trans (by decide) hRf, Nat.le_trans (by decide) hRl⟩) (fun u => (w_X10_letter Y h_t B_t B_t_braid t_toldCount t_braid_width u.1 u.2)) [1, 2] [0] [0, 1, 2] rfl rfl rfl rfl (by decide) (fun _ => rfl) rfl 1 0 rfl rfl rfl rfl hl.1 rfl (Nat.le_of_ble_eq_true rfl) dX10_letter_44 (fun u H locs h hP hD hS => ?_)
          obtain ⟨t_braid_length_44, t_braid_word_44⟩ := u
          try dsimp only at h
          have hP : va_P G vwCl (w_X10_letter Y h_t B_t B_t_braid t_toldCount t_braid_width t_braid_length_44 t_braid_word_44) H := hP
          have hD : va_D A (w_X10_letter Y h_t B_t B_t_braid t_toldCount t_braid_width t_braid_length_44 t_braid_word_44) := hD
          refine lv_aload_n hx hb dX10_letter_47 rfl (lv_at hl 1 rfl) ?_
          refine va_get (D := G) (ci := 9) (v := .ref (B_t 5)) (C := RX10) (T := TX10) (N := 15) hx hb hts inX10 hown hK hP 0 rfl rfl 5 (by decide) hf38 (fun _ h9 => h9) rfl dX10_letter_48 ?_
          refine va_getN (D := G) (ci := 0) (v := .int t_braid_length_44) (C := RX0) (T := TX0) (N := 6) hx hb hts inX0 hown hK hP 1 rfl rfl 5 (by decide) (hE.nest args 3 _ rfl) (fun _ h9 => h9) rfl dX10_letter_51 ?_
          exact hret t_braid_length_44 t_braid_length_44 t_braid_word_44 H locs ls _ hP hD hS h dX10_letter_54
        · have h := hf c9
          refine lv_iconst (v := -1) hx hb dX10_letter_37 (by decide) ?_
          exact hret (-1 : Int32) t_braid_length t_braid_word H locs ls _ hP hD hS h dX10_letter_38

set_option maxHeartbeats 20000000 in
set_option maxRecDepth 100000 in
theorem c_X10_letter (l : Launch) (G : va_G) (Y : Nat → ClassId) (tF sz : Nat) (h_t : Nat) (B_t : Nat → Nat) (B_t_braid : Nat → Nat) (t_toldCount : Int32) (t_braid_width : Int32) (t_braid_length : Int32) (t_braid_word : Nat → Int32) (x1 : Int32) {K : Int32 → Int32 → (Nat → Int32) → Prop} (h : pX10_letter t_braid_width t_braid_length t_braid_word x1 K) : Met l yX10_letter wsX10_letter ({ frames := 1, cells := 0, slots := 0, locals := 21 }) (PcM G Y tF sz (w_X10_letter Y h_t B_t B_t_braid t_toldCount t_braid_width t_braid_length t_braid_word) [.ref h_t, .int x1]) (va_Qi (fun (r : Int32) (u : Int32 × (Nat → Int32)) => K r u.1 u.2) (fun u t => BM G Y (va_A (w_X10_letter Y h_t B_t B_t_braid t_toldCount t_braid_width t_braid_length t_braid_word) sz) (w_X10_letter Y h_t B_t B_t_braid t_toldCount t_braid_width u.1 u.2) t) (va_A (w_X10_letter Y h_t B_t B_t_braid t_toldCount t_braid_width t_braid_length t_braid_word) sz)) 0 0 (va_A (w_X10_letter Y h_t B_t B_t_braid t_toldCount t_braid_width t_braid_length t_braid_word) sz) := by
  refine Met.ofW (cc := cX10_letter) (maxL := 3) (ret := (some .int)) (by decide +kernel) rfl ?_
  intro p e s m args below meth c s₁ B hml hv
  obtain ⟨rfl, hsz, hP, hK, hD0, hE⟩ := hv
  have hts := atoms_spec (ws := wsX10_letter) B.pre
  have hown : s.vm.findClass RX10 = some m.cls := findClass_of_methodNamed B.named
  have hlocks := B.notSynchronized
  subst hsz
  have hD := hD0.self (sz := s.heap.size)
  exact wk_X10_letter h_t B_t B_t_braid t_toldCount t_braid_width t_braid_length t_braid_word x1 B.exec B.bytes hml hown hts hK hE (fun q h => Or.inr h) (Nat.le_refl _) (Nat.le_refl _) (fun r t_braid_length t_braid_word H locs ls pc hP hD hS hk hd => W.iret (v := r) B.exec B.bytes B.returns (fun t ht hW => ⟨⟨r, (t_braid_length, t_braid_word), rfl, hk, by rw [ht]; exact hP, va_K.moved hW.alike hK, hD⟩, hS.F ht⟩) hS.2.2 hd) hP hD h

abbrev w_X10_colours (Y : Nat → ClassId) (h_t : Nat) (B_t : Nat → Nat) (B_t_braid : Nat → Nat) (B_t_contrary : Nat → Nat) (B_t_current : Nat → Nat) (B_t_twisting : Nat → Nat) (t_toldCount : Int32) (t_braid_width : Int32) (t_braid_length : Int32) (t_braid_ahead : Nat → Int32) (t_braid_now : Nat → Int32) (t_braid_tallies : Nat → Int32) (t_braid_word : Nat → Int32) (t_contrary_n : Int32) (t_contrary_cells : Nat → Int32) (t_current_n : Int32) (t_current_cells : Nat → Int32) (t_twisting_modulus : Int32) (t_twisting_values : Nat → Int32) : va_W := [(h_t, .inr (9, [.ref (B_t 0), .ref (B_t 1), .ref (B_t 2), .ref (B_t 3), .ref (B_t 4), .ref (B_t 5), .ref (B_t 6), .ref (B_t 7), .ref (B_t 8), .ref (B_t 9), .ref (B_t 10), .ref (B_t 11), .ref (B_t 12), .ref (B_t 13), .int t_toldCount])), ((B_t 5), .inr (0, [.ref (B_t_braid 0), .ref (B_t_braid 1), .ref (B_t_braid 2), .ref (B_t_braid 3), .int t_braid_width, .int t_braid_length])), ((B_t_braid 1), .inl (Y 0, 4, .inl t_braid_ahead)), ((B_t_braid 2), .inl (Y 0, 4, .inl t_braid_now)), ((B_t_braid 3), .inl (Y 0, 7, .inl t_braid_tallies)), ((B_t_braid 0), .inl (Y 0, 24, .inl t_braid_word)), ((B_t 2), .inr (6, [.ref (B_t_contrary 0), .int t_contrary_n])), ((B_t_contrary 0), .inl (Y 0, 64, .inl t_contrary_cells)), ((B_t 0), .inr (6, [.ref (B_t_current 0), .int t_current_n])), ((B_t_current 0), .inl (Y 0, 64, .inl t_current_cells)), ((B_t 4), .inr (8, [.ref (B_t_twisting 0), .int t_twisting_modulus])), ((B_t_twisting 0), .inl (Y 0, 64, .inl t_twisting_values))]

set_option maxHeartbeats 20000000 in
set_option maxRecDepth 100000 in
theorem wk_X10_colours {p : Program} {l : Launch} {e : Env} {R : Room} {s : State} {m : MethodId} {args : Array Value} {below : List Frame} {meth : Method} {c : Code} {Q : State → Prop} {G : va_G} {Y : Nat → ClassId} {tF : Nat} {A : Nat → Prop} (h_t : Nat) (B_t : Nat → Nat) (B_t_braid : Nat → Nat) (B_t_contrary : Nat → Nat) (B_t_current : Nat → Nat) (B_t_twisting : Nat → Nat) (t_toldCount : Int32) (t_braid_width : Int32) (t_braid_length : Int32) (t_braid_ahead : Nat → Int32) (t_braid_now : Nat → Int32) (t_braid_tallies : Nat → Int32) (t_braid_word : Nat → Int32) (t_contrary_n : Int32) (t_contrary_cells : Nat → Int32) (t_current_n : Int32) (t_current_cells : Nat → Int32) (t_twisting_modulus : Int32) (t_twisting_values : Nat → Int32) {K : Int32 → (Nat → Int32) → (Nat → Int32) → (Nat → Int32) → Int32 → (Nat → Int32) → Prop} (hx : p.tables.exec = Jvm.exec) (hb : c.code = cX10_colours) (hml : c.maxLocals = 3) (hown : s.vm.findClass RX10 = some m.cls) (hts : ∀ w ∈ wsX10_colours, w.before args s = true) (hK : va_K G vwCl (tyL Y) s) (hE : Ev A tF s) (hA : ∀ q, s.heap.size ≤ q → A q) (hRf : 3 ≤ R.frames) (hRl : 75 ≤ R.locals) (hret : ∀ (r : Int32) (t_braid_ahead : Nat → Int32) (t_braid_now : Nat → Int32) (t_braid_tallies : Nat → Int32) (t_contrary_n : Int32) (t_contrary_cells : Nat → Int32) (H : Heap) (locs : List Loc) (ls : Array Slot) (pc : Nat), va_P G vwCl (w_X10_colours Y h_t B_t B_t_braid B_t_contrary B_t_current B_t_twisting t_toldCount t_braid_width t_braid_length t_braid_ahead t_braid_now t_braid_tallies t_braid_word t_contrary_n t_contrary_cells t_current_n t_current_cells t_twisting_modulus t_twisting_values) H → va_D A (w_X10_colours Y h_t B_t B_t_braid B_t_contrary B_t_current B_t_twisting t_toldCount t_braid_width t_braid_length t_braid_ahead t_braid_now t_braid_tallies t_braid_word t_contrary_n t_contrary_cells t_current_n t_current_cells t_twisting_modulus t_twisting_values) → va_S A s.heap H locs → K r t_braid_ahead t_braid_now t_braid_tallies t_contrary_n t_contrary_cells → decode cX10_colours pc = .ok (.ireturn, 1) → W p l e R s m args below meth c H locs 0 0 Q (F0 m pc ls [.int r])) (hP : va_P G vwCl (w_X10_colours Y h_t B_t B_t_braid B_t_contrary B_t_current B_t_twisting t_toldCount t_braid_width t_braid_length t_braid_ahead t_braid_now t_braid_tallies t_braid_word t_contrary_n t_contrary_cells t_current_n t_current_cells t_twisting_modulus t_twisting_values) s.heap) (hD : va_D A (w_X10_colours Y h_t B_t B_t_braid B_t_contrary B_t_current B_t_twisting t_toldCount t_braid_width t_braid_length t_braid_ahead t_braid_now t_braid_tallies t_braid_word t_contrary_n t_contrary_cells t_current_n t_current_cells t_twisting_modulus t_twisting_values)) (h : pX10_colours t_braid_width t_braid_length t_braid_ahead t_braid_now t_braid_tallies t_braid_word t_contrary_n t_contrary_cells t_current_n t_current_cells t_twisting_modulus t_twisting_values K) : W p l e R s m args below meth c s.heap [] 0 0 Q (entryFrame m ([.ref h_t] : List Value).toArray 3) := by
  have inX10 : ∀ w ∈ u_ws RX10 TX10 15, w ∈ wsX10_colours := by decide +kernel
  have inX9 : ∀ w ∈ u_ws RX9 TX9 2, w ∈ wsX10_colours := by decide +kernel
  have hf14 := hts (.fieldLink RX10 14 "RackBench" "current" "LRackBench$Table;") (by decide +kernel)
  have hf21 := hts (.fieldLink RX10 21 "RackBench" "contrary" "LRackBench$Table;") (by decide +kernel)
  have hf31 := hts (.fieldLink RX10 31 "RackBench" "twisting" "LRackBench$Twist;") (by decide +kernel)
  have hf38 := hts (.fieldLink RX10 38 "RackBench" "braid" "LRackBench$Braid;") (by decide +kernel)
  have hl := lv_entry ([.ref h_t]) (n := 3) (Nat.le_of_ble_eq_true rfl)
  rw [lg_entry_eq]
  generalize (lg_sl ([.ref h_t]) ++ List.replicate (3 - (lg_sl ([.ref h_t])).length) Slot.unset).toArray = ls at hl ⊢
  have hl : lv_has ls 3 [(0, .ref h_t)] := hl
  generalize hH0 : s.heap = H at hP ⊢
  have hS : va_S A s.heap H [] := by rw [← hH0]; exact va_S.rf
  clear hH0
  generalize ([] : List Loc) = locs at hS ⊢
  refine lv_aload_n hx hb dX10_colours_0 rfl (lv_at hl 0 rfl) ?_
  refine va_get (D := G) (ci := 9) (v := .ref (B_t 0)) (C := RX10) (T := TX10) (N := 15) hx hb hts inX10 hown hK hP 0 rfl rfl 0 (by decide) hf14 (fun _ h9 => h9) rfl dX10_colours_1 ?_
  refine mc_iV ⟨hx, hb, hml, hown, hts⟩ hK hE hA hP hD hS (c_X7_isRack l G Y tF H.size (B_t 0) B_t_current t_current_n t_current_cells h) (cwV 0 hts gX10_colours_X7_isRack rfl rfl rfl (by decide +kernel) ⟨Nat.le_trans (by decide) hRf, Nat.le_trans (by decide) hRl⟩) (fun u => (w_X10_colours Y h_t B_t B_t_braid B_t_contrary B_t_current B_t_twisting t_toldCount t_braid_width t_braid_length t_braid_ahead t_braid_now t_braid_tallies t_braid_word t_contrary_n t_contrary_cells t_current_n t_current_cells t_twisting_modulus t_twisting_values)) [8, 9] [0, 1, 2, 3, 4, 5, 6, 7, 10, 11] [0, 1, 2, 3, 4, 5, 6, 7, 10, 11, 8, 9] rfl rfl rfl rfl (by decide) (fun _ => rfl) rfl 8 6 rfl rfl rfl rfl hl.1 rfl (Nat.le_of_ble_eq_true rfl) dX10_colours_4 (fun r4 u H locs h hP hD hS => ?_)
  try dsimp only at h
  have hP : va_P G vwCl (w_X10_colours Y h_t B_t B_t_braid B_t_contrary B_t_current B_t_twisting t_toldCount t_braid_width t_braid_length t_braid_ahead t_braid_now t_braid_tallies t_braid_word t_contrary_n t_contrary_cells t_current_n t_current_cells t_twisting_modulus t_twisting_values) H := hP
  have hD : va_D A (w_X10_colours Y h_t B_t B_t_braid B_t_contrary B_t_current B_t_twisting t_toldCount t_braid_width t_braid_length t_braid_ahead t_braid_now t_braid_tallies t_braid_word t_contrary_n t_contrary_cells t_current_n t_current_cells t_twisting_modulus t_twisting_values) := hD
  obtain ⟨ht, hf⟩ := h
  refine lv_if_ne (tgt := 12) hx hb dX10_colours_7 (by decide) (fun c9 => ?_) (fun c9 => ?_)
  · have h := ht c9
    refine lv_aload_n hx hb dX10_colours_12 rfl (lv_at hl 0 rfl) ?_
    refine va_get (D := G) (ci := 9) (v := .ref (B_t 2)) (C := RX10) (T := TX10) (N := 15) hx hb hts inX10 hown hK hP 0 rfl rfl 2 (by decide) hf21 (fun _ h9 => h9) rfl dX10_colours_13 ?_
    refine lv_aload_n hx hb dX10_colours_16 rfl (lv_at hl 0 rfl) ?_
    refine va_get (D := G) (ci := 9) (v := .ref (B_t 0)) (C := RX10) (T := TX10) (N := 15) hx hb hts inX10 hown hK hP 0 rfl rfl 0 (by decide) hf14 (fun _ h9 => h9) rfl dX10_colours_17 ?_
    refine mc_vV ⟨hx, hb, hml, hown, hts⟩ hK hE hA hP hD hS (c_X7_makeContrary l G Y tF H.size (B_t 2) (B_t 0) B_t_contrary B_t_current t_contrary_n t_contrary_cells t_current_n t_current_cells h) (cwV 1 hts gX10_colours_X7_makeContrary rfl rfl rfl (by decide +kernel) ⟨Nat.le_trans (by decide) hRf, Nat.le_trans (by decide) hRl⟩) (fun u => (w_X10_colours Y h_t B_t B_t_braid B_t_contrary B_t_current B_t_twisting t_toldCount t_braid_width t_braid_length t_braid_ahead t_braid_now t_braid_tallies t_braid_word u.1 u.2 t_current_n t_current_cells t_twisting_modulus t_twisting_values)) [6, 7, 8, 9] [0, 1, 2, 3, 4, 5, 10, 11] [0, 1, 2, 3, 4, 5, 8, 9, 10, 11, 6, 7] rfl rfl rfl rfl (by decide) (fun _ => rfl) rfl 6 6 rfl rfl rfl rfl hl.1 rfl (Nat.le_of_ble_eq_true rfl) dX10_colours_20 (fun u H locs h hP hD hS => ?_)
    obtain ⟨t_contrary_n_20, t_contrary_cells_20⟩ := u
    try dsimp only at h
    have hP : va_P G vwCl (w_X10_colours Y h_t B_t B_t_braid B_t_contrary B_t_current B_t_twisting t_toldCount t_braid_width t_braid_length t_braid_ahead t_braid_now t_braid_tallies t_braid_word t_contrary_n_20 t_contrary_cells_20 t_current_n t_current_cells t_twisting_modulus t_twisting_values) H := hP
    have hD : va_D A (w_X10_colours Y h_t B_t B_t_braid B_t_contrary B_t_current B_t_twisting t_toldCount t_braid_width t_braid_length t_braid_ahead t_braid_now t_braid_tallies t_braid_word t_contrary_n_20 t_contrary_cells_20 t_current_n t_current_cells t_twisting_modulus t_twisting_values) := hD
    refine lv_aload_n hx hb dX10_colours_23 rfl (lv_at hl 0 rfl) ?_
    refine va_get (D := G) (ci := 9) (v := .ref (B_t 5)) (C := RX10) (T := TX10) (N := 15) hx hb hts inX10 hown hK hP 0 rfl rfl 5 (by decide) hf38 (fun _ h9 => h9) rfl dX10_colours_24 ?_
    refine lv_aload_n hx hb dX10_colours_27 rfl (lv_at hl 0 rfl) ?_
    refine va_get (D := G) (ci := 9) (v := .ref (B_t 0)) (C := RX10) (T := TX10) (N := 15) hx hb hts inX10 hown hK hP 0 rfl rfl 0 (by decide) hf14 (fun _ h9 => h9) rfl dX10_colours_28 ?_
    refine lv_aload_n hx hb dX10_colours_31 rfl (lv_at hl 0 rfl) ?_
    refine va_get (D := G) (ci := 9) (v := .ref (B_t 2)) (C := RX10) (T := TX10) (N := 15) hx hb hts inX10 hown hK hP 0 rfl rfl 2 (by decide) hf21 (fun _ h9 => h9) rfl dX10_colours_32 ?_
    refine lv_aload_n hx hb dX10_colours_35 rfl (lv_at hl 0 rfl) ?_
    refine va_get (D := G) (ci := 9) (v := .ref (B_t 4)) (C := RX10) (T := TX10) (N := 15) hx hb hts inX10 hown hK hP 0 rfl rfl 4 (by decide) hf31 (fun _ h9 => h9) rfl dX10_colours_36 ?_
    refine mc_vV ⟨hx, hb, hml, hown, hts⟩ hK hE hA hP hD hS (c_X0_tally l G Y tF H.size (B_t 5) (B_t 0) (B_t 2) (B_t 4) B_t_braid B_t_current B_t_contrary B_t_twisting t_braid_width t_braid_length t_braid_ahead t_braid_now t_braid_tallies t_braid_word t_current_n t_current_cells t_contrary_n_20 t_contrary_cells_20 t_twisting_modulus t_twisting_values h) (cwV 3 hts gX10_colours_X0_tally rfl rfl rfl (by decide +kernel) ⟨Nat.le_trans (by decide) hRf, Nat.le_trans (by decide) hRl⟩) (fun u => (w_X10_colours Y h_t B_t B_t_braid B_t_contrary B_t_current B_t_twisting t_toldCount t_braid_width t_braid_length u.1 u.2.1 u.2.2 t_braid_word t_contrary_n_20 t_contrary_cells_20 t_current_n t_current_cells t_twisting_modulus t_twisting_values)) [1, 2, 3, 4, 5, 8, 9, 6, 7, 10, 11] [0] [0, 1, 2, 3, 4, 5, 8, 9, 6, 7, 10, 11] rfl rfl rfl rfl (by decide) (fun _ => rfl) rfl 1 0 rfl rfl rfl rfl hl.1 rfl (Nat.le_of_ble_eq_true rfl) dX10_colours_39 (fun u H locs h hP hD hS => ?_)
    obtain ⟨t_braid_ahead_39, t_braid_now_39, t_braid_tallies_39⟩ := u
    try dsimp only at h
    have hP : va_P G vwCl (w_X10_colours Y h_t B_t B_t_braid B_t_contrary B_t_current B_t_twisting t_toldCount t_braid_width t_braid_length t_braid_ahead_39 t_braid_now_39 t_braid_tallies_39 t_braid_word t_contrary_n_20 t_contrary_cells_20 t_current_n t_current_cells t_twisting_modulus t_twisting_values) H := hP
    have hD : va_D A (w_X10_colours Y h_t B_t B_t_braid B_t_contrary B_t_current B_t_twisting t_toldCount t_braid_width t_braid_length t_braid_ahead_39 t_braid_now_39 t_braid_tallies_39 t_braid_word t_contrary_n_20 t_contrary_cells_20 t_current_n t_current_cells t_twisting_modulus t_twisting_values) := hD
    refine lv_iconst (v := 0) hx hb dX10_colours_42 (by decide) ?_
    refine lv_istore_n (lv' := [(1, .int (0 : Int32)), (0, .ref h_t)]) hx hb dX10_colours_43 rfl hl (by decide) rfl (fun ls hl => ?_)
    refine lv_iconst (v := 0) hx hb dX10_colours_44 (by decide) ?_
    refine lv_istore_n (lv' := [(2, .int (0 : Int32)), (1, .int (0 : Int32)), (0, .ref h_t)]) hx hb dX10_colours_45 rfl hl (by decide) rfl (fun ls hl => ?_)
    obtain ⟨I46, m46, hI46, hB46⟩ := h
    have L46 : ∀ (t_braid_ahead : Nat → Int32) (t_braid_now : Nat → Int32) (t_braid_tallies : Nat → Int32) (t_contrary_n : Int32) (t_contrary_cells : Nat → Int32) (I46 : Int32 → Int32 → Prop) (m46 : Int32 → Int32 → Nat), (∀ (x1 : Int32) (x2 : Int32), I46 x1 x2 → pX10_colours_46 t_braid_width t_braid_length t_braid_word t_current_n t_current_cells t_twisting_modulus t_twisting_values K t_braid_ahead t_braid_now t_braid_tallies t_contrary_n t_contrary_cells x1 x2 (fun x1' x2' => I46 x1' x2' ∧ m46 x1' x2' < m46 x1 x2)) → ∀ (n : Nat) (x1 : Int32) (x2 : Int32) (H : Heap) (locs : List Loc) (ls : Array Slot), I46 x1 x2 → m46 x1 x2 < n → va_P G vwCl (w_X10_colours Y h_t B_t B_t_braid B_t_contrary B_t_current B_t_twisting t_toldCount t_braid_width t_braid_length t_braid_ahead t_braid_now t_braid_tallies t_braid_word t_contrary_n t_contrary_cells t_current_n t_current_cells t_twisting_modulus t_twisting_values) H → va_D A (w_X10_colours Y h_t B_t B_t_braid B_t_contrary B_t_current B_t_twisting t_toldCount t_braid_width t_braid_length t_braid_ahead t_braid_now t_braid_tallies t_braid_word t_contrary_n t_contrary_cells t_current_n t_current_cells t_twisting_modulus t_twisting_values) → va_S A s.heap H locs → lv_has ls 3 [(0, .ref h_t), (1, .int x1), (2, .int x2)] → W p l e R s m args below meth c H locs 0 0 Q (F0 m 46 ls []) := by
      intro t_braid_ahead t_braid_now t_braid_tallies t_contrary_n t_contrary_cells I46 m46 hB46 n
      induction n with
      | zero => intro x1 x2 H locs ls _ hm; exact absurd hm (Nat.not_lt_zero _)
      | succ n ih =>
        intro x1 x2 H locs ls hI hm hP hD hS hl
        obtain ⟨R46, h, rec46⟩ : ∃ R46 : Int32 → Int32 → Prop, pX10_colours_46 t_braid_width t_braid_length t_braid_word t_current_n t_current_cells t_twisting_modulus t_twisting_values K t_braid_ahead t_braid_now t_braid_tallies t_contrary_n t_contrary_cells x1 x2 R46 ∧ ∀ (x1 : Int32) (x2 : Int32) (H : Heap) (locs : List Loc) (ls : Array Slot), R46 x1 x2 → va_P G vwCl (w_X10_colours Y h_t B_t B_t_braid B_t_contrary B_t_current B_t_twisting t_toldCount t_braid_width t_braid_length t_braid_ahead t_braid_now t_braid_tallies t_braid_word t_contrary_n t_contrary_cells t_current_n t_current_cells t_twisting_modulus t_twisting_values) H → va_D A (w_X10_colours Y h_t B_t B_t_braid B_t_contrary B_t_current B_t_twisting t_toldCount t_braid_width t_braid_length t_braid_ahead t_braid_now t_braid_tallies t_braid_word t_contrary_n t_contrary_cells t_current_n t_current_cells t_twisting_modulus t_twisting_values) → va_S A s.heap H locs → lv_has ls 3 [(0, .ref h_t), (1, .int x1), (2, .int x2)] → W p l e R s m args below meth c H locs 0 0 Q (F0 m 46 ls []) := ⟨_, hB46 x1 x2 hI, fun x1 x2 H locs ls hh hP hD hS hl => ih x1 x2 H locs ls hh.1 (Nat.lt_of_lt_of_le hh.2 (Nat.le_of_lt_succ hm)) hP hD hS hl⟩
        refine lv_iload_n hx hb dX10_colours_46 rfl (lv_at hl 2 rfl) ?_
        refine lv_aload_n hx hb dX10_colours_47 rfl (lv_at hl 0 rfl) ?_
        refine va_get (D := G) (ci := 9) (v := .ref (B_t 4)) (C := RX10) (T := TX10) (N := 15) hx hb hts inX10 hown hK hP 0 rfl rfl 4 (by decide) hf31 (fun _ h9 => h9) rfl dX10_colours_48 ?_
        refine va_getN (D := G) (ci := 8) (v := .int t_twisting_modulus) (C := RX9) (T := TX9) (N := 2) hx hb hts inX9 hown hK hP 10 rfl rfl 1 (by decide) (hE.nest args 1 _ rfl) (fun _ h9 => h9) rfl dX10_colours_51 ?_
        obtain ⟨ht, hf⟩ := h
        refine lv_icmp_ge (tgt := 74) hx hb dX10_colours_54 (by decide) (fun c9 => ?_) (fun c9 => ?_)
        · have h := ht c9
          refine lv_iload_n hx hb dX10_colours_74 rfl (lv_at hl 1 rfl) ?_
          exact hret x1 t_braid_ahead t_braid_now t_braid_tallies t_contrary_n t_contrary_cells H locs ls _ hP hD hS h dX10_colours_75
        · have h := hf c9
          refine lv_iload_n hx hb dX10_colours_57 rfl (lv_at hl 1 rfl) ?_
          refine lv_aload_n hx hb dX10_colours_58 rfl (lv_at hl 0 rfl) ?_
          refine va_get (D := G) (ci := 9) (v := .ref (B_t 5)) (C := RX10) (T := TX10) (N := 15) hx hb hts inX10 hown hK hP 0 rfl rfl 5 (by decide) hf38 (fun _ h9 => h9) rfl dX10_colours_59 ?_
          refine lv_iload_n hx hb dX10_colours_62 rfl (lv_at hl 2 rfl) ?_
          refine mc_iV ⟨hx, hb, hml, hown, hts⟩ hK hE hA hP hD hS (c_X0_tallied l G Y tF H.size (B_t 5) B_t_braid t_braid_width t_braid_length t_braid_tallies x2 h) (cwV 1 hts gX10_colours_X0_tallied rfl rfl rfl (by decide +kernel) ⟨Nat.le_trans (by decide) hRf, Nat.le_trans (by decide) hRl⟩) (fun u => (w_X10_colours Y h_t B_t B_t_braid B_t_contrary B_t_current B_t_twisting t_toldCount t_braid_width t_braid_length t_braid_ahead t_braid_now t_braid_tallies t_braid_word t_contrary_n t_contrary_cells t_current_n t_current_cells t_twisting_modulus t_twisting_values)) [1, 4] [0, 2, 3, 5, 6, 7, 8, 9, 10, 11] [0, 10, 1, 2, 11, 3, 4, 5, 6, 7, 8, 9] rfl rfl rfl rfl (by decide) (fun _ => rfl) rfl 1 0 rfl rfl rfl rfl hl.1 rfl (Nat.le_of_ble_eq_true rfl) dX10_colours_63 (fun r63 u H locs h hP hD hS => ?_)
          try dsimp only at h
          have hP : va_P G vwCl (w_X10_colours Y h_t B_t B_t_braid B_t_contrary B_t_current B_t_twisting t_toldCount t_braid_width t_braid_length t_braid_ahead t_braid_now t_braid_tallies t_braid_word t_contrary_n t_contrary_cells t_current_n t_current_cells t_twisting_modulus t_twisting_values) H := hP
          have hD : va_D A (w_X10_colours Y h_t B_t B_t_braid B_t_contrary B_t_current B_t_twisting t_toldCount t_braid_width t_braid_length t_braid_ahead t_braid_now t_braid_tallies t_braid_word t_contrary_n t_contrary_cells t_current_n t_current_cells t_twisting_modulus t_twisting_values) := hD
          refine lv_iadd hx hb dX10_colours_66 ?_
          refine lv_istore_n (lv' := [(1, .int (x1 + r63)), (0, .ref h_t), (2, .int x2)]) hx hb dX10_colours_67 rfl hl (by decide) rfl (fun ls hl => ?_)
          refine lv_iinc (v := (x2 + 1)) (lv' := [(2, .int (x2 + 1)), (1, .int (x1 + r63)), (0, .ref h_t)]) hx hb dX10_colours_68 hl (k := 2) rfl rfl (by decide) rfl (fun ls hl => ?_)
          refine lv_goto (tgt := 46) hx hb dX10_colours_71 (by decide) ?_
          exact rec46 (x1 + r63) (x2 + 1) H locs ls h hP hD hS (lv_sub hl [2, 1, 0] rfl)
    exact L46 t_braid_ahead_39 t_braid_now_39 t_braid_tallies_39 t_contrary_n_20 t_contrary_cells_20 I46 m46 hB46 _ (0 : Int32) (0 : Int32) H locs ls hI46 (Nat.lt_succ_self _) hP hD hS (lv_sub hl [2, 1, 0] rfl)
  · have h := hf c9
    refine lv_iconst (v := -1) hx hb dX10_colours_10 (by decide) ?_
    exact hret (-1 : Int32) t_braid_ahead t_braid_now t_braid_tallies t_contrary_n t_contrary_cells H locs ls _ hP hD hS h dX10_colours_11

set_option maxHeartbeats 20000000 in
set_option maxRecDepth 100000 in
theorem c_X10_colours (l : Launch) (G : va_G) (Y : Nat → ClassId) (tF sz : Nat) (h_t : Nat) (B_t : Nat → Nat) (B_t_braid : Nat → Nat) (B_t_contrary : Nat → Nat) (B_t_current : Nat → Nat) (B_t_twisting : Nat → Nat) (t_toldCount : Int32) (t_braid_width : Int32) (t_braid_length : Int32) (t_braid_ahead : Nat → Int32) (t_braid_now : Nat → Int32) (t_braid_tallies : Nat → Int32) (t_braid_word : Nat → Int32) (t_contrary_n : Int32) (t_contrary_cells : Nat → Int32) (t_current_n : Int32) (t_current_cells : Nat → Int32) (t_twisting_modulus : Int32) (t_twisting_values : Nat → Int32) {K : Int32 → (Nat → Int32) → (Nat → Int32) → (Nat → Int32) → Int32 → (Nat → Int32) → Prop} (h : pX10_colours t_braid_width t_braid_length t_braid_ahead t_braid_now t_braid_tallies t_braid_word t_contrary_n t_contrary_cells t_current_n t_current_cells t_twisting_modulus t_twisting_values K) : Met l yX10_colours wsX10_colours ({ frames := 3, cells := 0, slots := 0, locals := 75 }) (PcM G Y tF sz (w_X10_colours Y h_t B_t B_t_braid B_t_contrary B_t_current B_t_twisting t_toldCount t_braid_width t_braid_length t_braid_ahead t_braid_now t_braid_tallies t_braid_word t_contrary_n t_contrary_cells t_current_n t_current_cells t_twisting_modulus t_twisting_values) [.ref h_t]) (va_Qi (fun (r : Int32) (u : (Nat → Int32) × (Nat → Int32) × (Nat → Int32) × Int32 × (Nat → Int32)) => K r u.1 u.2.1 u.2.2.1 u.2.2.2.1 u.2.2.2.2) (fun u t => BM G Y (va_A (w_X10_colours Y h_t B_t B_t_braid B_t_contrary B_t_current B_t_twisting t_toldCount t_braid_width t_braid_length t_braid_ahead t_braid_now t_braid_tallies t_braid_word t_contrary_n t_contrary_cells t_current_n t_current_cells t_twisting_modulus t_twisting_values) sz) (w_X10_colours Y h_t B_t B_t_braid B_t_contrary B_t_current B_t_twisting t_toldCount t_braid_width t_braid_length u.1 u.2.1 u.2.2.1 t_braid_word u.2.2.2.1 u.2.2.2.2 t_current_n t_current_cells t_twisting_modulus t_twisting_values) t) (va_A (w_X10_colours Y h_t B_t B_t_braid B_t_contrary B_t_current B_t_twisting t_toldCount t_braid_width t_braid_length t_braid_ahead t_braid_now t_braid_tallies t_braid_word t_contrary_n t_contrary_cells t_current_n t_current_cells t_twisting_modulus t_twisting_values) sz)) 0 0 (va_A (w_X10_colours Y h_t B_t B_t_braid B_t_contrary B_t_current B_t_twisting t_toldCount t_braid_width t_braid_length t_braid_ahead t_braid_now t_braid_tallies t_braid_word t_contrary_n t_contrary_cells t_current_n t_current_cells t_twisting_modulus t_twisting_values) sz) := by
  refine Met.ofW (cc := cX10_colours) (maxL := 3) (ret := (some .int)) (by decide +kernel) rfl ?_
  intro p e s m args below meth c s₁ B hml hv
  obtain ⟨rfl, hsz, hP, hK, hD0, hE⟩ := hv
  have hts := atoms_spec (ws := wsX10_colours) B.pre
  have hown : s.vm.findClass RX10 = some m.cls := findClass_of_methodNamed B.named
  have hlocks := B.notSynchronized
  subst hsz
  have hD := hD0.self (sz := s.heap.size)
  exact wk_X10_colours h_t B_t B_t_braid B_t_contrary B_t_current B_t_twisting t_toldCount t_braid_width t_braid_length t_braid_ahead t_braid_now t_braid_tallies t_braid_word t_contrary_n t_contrary_cells t_current_n t_current_cells t_twisting_modulus t_twisting_values B.exec B.bytes hml hown hts hK hE (fun q h => Or.inr h) (Nat.le_refl _) (Nat.le_refl _) (fun r t_braid_ahead t_braid_now t_braid_tallies t_contrary_n t_contrary_cells H locs ls pc hP hD hS hk hd => W.iret (v := r) B.exec B.bytes B.returns (fun t ht hW => ⟨⟨r, (t_braid_ahead, t_braid_now, t_braid_tallies, t_contrary_n, t_contrary_cells), rfl, hk, by rw [ht]; exact hP, va_K.moved hW.alike hK, hD⟩, hS.F ht⟩) hS.2.2 hd) hP hD h

abbrev w_X10_sums (Y : Nat → ClassId) (h_t : Nat) (B_t : Nat → Nat) (B_t_braid : Nat → Nat) (B_t_contrary : Nat → Nat) (B_t_current : Nat → Nat) (B_t_twisting : Nat → Nat) (t_toldCount : Int32) (t_braid_width : Int32) (t_braid_length : Int32) (t_braid_ahead : Nat → Int32) (t_braid_now : Nat → Int32) (t_braid_tallies : Nat → Int32) (t_braid_word : Nat → Int32) (t_contrary_n : Int32) (t_contrary_cells : Nat → Int32) (t_current_n : Int32) (t_current_cells : Nat → Int32) (t_twisting_modulus : Int32) (t_twisting_values : Nat → Int32) : va_W := [(h_t, .inr (9, [.ref (B_t 0), .ref (B_t 1), .ref (B_t 2), .ref (B_t 3), .ref (B_t 4), .ref (B_t 5), .ref (B_t 6), .ref (B_t 7), .ref (B_t 8), .ref (B_t 9), .ref (B_t 10), .ref (B_t 11), .ref (B_t 12), .ref (B_t 13), .int t_toldCount])), ((B_t 5), .inr (0, [.ref (B_t_braid 0), .ref (B_t_braid 1), .ref (B_t_braid 2), .ref (B_t_braid 3), .int t_braid_width, .int t_braid_length])), ((B_t_braid 1), .inl (Y 0, 4, .inl t_braid_ahead)), ((B_t_braid 2), .inl (Y 0, 4, .inl t_braid_now)), ((B_t_braid 3), .inl (Y 0, 7, .inl t_braid_tallies)), ((B_t_braid 0), .inl (Y 0, 24, .inl t_braid_word)), ((B_t 2), .inr (6, [.ref (B_t_contrary 0), .int t_contrary_n])), ((B_t_contrary 0), .inl (Y 0, 64, .inl t_contrary_cells)), ((B_t 0), .inr (6, [.ref (B_t_current 0), .int t_current_n])), ((B_t_current 0), .inl (Y 0, 64, .inl t_current_cells)), ((B_t 4), .inr (8, [.ref (B_t_twisting 0), .int t_twisting_modulus])), ((B_t_twisting 0), .inl (Y 0, 64, .inl t_twisting_values))]

set_option maxHeartbeats 20000000 in
set_option maxRecDepth 100000 in
theorem wk_X10_sums {p : Program} {l : Launch} {e : Env} {R : Room} {s : State} {m : MethodId} {args : Array Value} {below : List Frame} {meth : Method} {c : Code} {Q : State → Prop} {G : va_G} {Y : Nat → ClassId} {tF : Nat} {A : Nat → Prop} (h_t : Nat) (B_t : Nat → Nat) (B_t_braid : Nat → Nat) (B_t_contrary : Nat → Nat) (B_t_current : Nat → Nat) (B_t_twisting : Nat → Nat) (t_toldCount : Int32) (t_braid_width : Int32) (t_braid_length : Int32) (t_braid_ahead : Nat → Int32) (t_braid_now : Nat → Int32) (t_braid_tallies : Nat → Int32) (t_braid_word : Nat → Int32) (t_contrary_n : Int32) (t_contrary_cells : Nat → Int32) (t_current_n : Int32) (t_current_cells : Nat → Int32) (t_twisting_modulus : Int32) (t_twisting_values : Nat → Int32) (x1 : Int32) {K : Int32 → (Nat → Int32) → (Nat → Int32) → (Nat → Int32) → Int32 → (Nat → Int32) → Prop} (hx : p.tables.exec = Jvm.exec) (hb : c.code = cX10_sums) (hml : c.maxLocals = 2) (hown : s.vm.findClass RX10 = some m.cls) (hts : ∀ w ∈ wsX10_sums, w.before args s = true) (hK : va_K G vwCl (tyL Y) s) (hE : Ev A tF s) (hA : ∀ q, s.heap.size ≤ q → A q) (hRf : 3 ≤ R.frames) (hRl : 75 ≤ R.locals) (hret : ∀ (r : Int32) (t_braid_ahead : Nat → Int32) (t_braid_now : Nat → Int32) (t_braid_tallies : Nat → Int32) (t_contrary_n : Int32) (t_contrary_cells : Nat → Int32) (H : Heap) (locs : List Loc) (ls : Array Slot) (pc : Nat), va_P G vwCl (w_X10_sums Y h_t B_t B_t_braid B_t_contrary B_t_current B_t_twisting t_toldCount t_braid_width t_braid_length t_braid_ahead t_braid_now t_braid_tallies t_braid_word t_contrary_n t_contrary_cells t_current_n t_current_cells t_twisting_modulus t_twisting_values) H → va_D A (w_X10_sums Y h_t B_t B_t_braid B_t_contrary B_t_current B_t_twisting t_toldCount t_braid_width t_braid_length t_braid_ahead t_braid_now t_braid_tallies t_braid_word t_contrary_n t_contrary_cells t_current_n t_current_cells t_twisting_modulus t_twisting_values) → va_S A s.heap H locs → K r t_braid_ahead t_braid_now t_braid_tallies t_contrary_n t_contrary_cells → decode cX10_sums pc = .ok (.ireturn, 1) → W p l e R s m args below meth c H locs 0 0 Q (F0 m pc ls [.int r])) (hP : va_P G vwCl (w_X10_sums Y h_t B_t B_t_braid B_t_contrary B_t_current B_t_twisting t_toldCount t_braid_width t_braid_length t_braid_ahead t_braid_now t_braid_tallies t_braid_word t_contrary_n t_contrary_cells t_current_n t_current_cells t_twisting_modulus t_twisting_values) s.heap) (hD : va_D A (w_X10_sums Y h_t B_t B_t_braid B_t_contrary B_t_current B_t_twisting t_toldCount t_braid_width t_braid_length t_braid_ahead t_braid_now t_braid_tallies t_braid_word t_contrary_n t_contrary_cells t_current_n t_current_cells t_twisting_modulus t_twisting_values)) (h : pX10_sums t_braid_width t_braid_length t_braid_ahead t_braid_now t_braid_tallies t_braid_word t_contrary_n t_contrary_cells t_current_n t_current_cells t_twisting_modulus t_twisting_values x1 K) : W p l e R s m args below meth c s.heap [] 0 0 Q (entryFrame m ([.ref h_t, .int x1] : List Value).toArray 2) := by
  have inX10 : ∀ w ∈ u_ws RX10 TX10 15, w ∈ wsX10_sums := by decide +kernel
  have inX9 : ∀ w ∈ u_ws RX9 TX9 2, w ∈ wsX10_sums := by decide +kernel
  have hf14 := hts (.fieldLink RX10 14 "RackBench" "current" "LRackBench$Table;") (by decide +kernel)
  have hf21 := hts (.fieldLink RX10 21 "RackBench" "contrary" "LRackBench$Table;") (by decide +kernel)
  have hf31 := hts (.fieldLink RX10 31 "RackBench" "twisting" "LRackBench$Twist;") (by decide +kernel)
  have hf38 := hts (.fieldLink RX10 38 "RackBench" "braid" "LRackBench$Braid;") (by decide +kernel)
  have hl := lv_entry ([.ref h_t, .int x1]) (n := 2) (Nat.le_of_ble_eq_true rfl)
  rw [lg_entry_eq]
  generalize (lg_sl ([.ref h_t, .int x1]) ++ List.replicate (2 - (lg_sl ([.ref h_t, .int x1])).length) Slot.unset).toArray = ls at hl ⊢
  have hl : lv_has ls 2 [(0, .ref h_t), (1, .int x1)] := hl
  generalize hH0 : s.heap = H at hP ⊢
  have hS : va_S A s.heap H [] := by rw [← hH0]; exact va_S.rf
  clear hH0
  generalize ([] : List Loc) = locs at hS ⊢
  refine lv_iload_n hx hb dX10_sums_0 rfl (lv_at hl 1 rfl) ?_
  obtain ⟨ht, hf⟩ := h
  refine lv_if_lt (tgt := 25) hx hb dX10_sums_1 (by decide) (fun c9 => ?_) (fun c9 => ?_)
  · have h := ht c9
    refine lv_iconst (v := -1) hx hb dX10_sums_25 (by decide) ?_
    exact hret (-1 : Int32) t_braid_ahead t_braid_now t_braid_tallies t_contrary_n t_contrary_cells H locs ls _ hP hD hS h dX10_sums_26
  · have h := hf c9
    refine lv_iload_n hx hb dX10_sums_4 rfl (lv_at hl 1 rfl) ?_
    refine lv_aload_n hx hb dX10_sums_5 rfl (lv_at hl 0 rfl) ?_
    refine va_get (D := G) (ci := 9) (v := .ref (B_t 4)) (C := RX10) (T := TX10) (N := 15) hx hb hts inX10 hown hK hP 0 rfl rfl 4 (by decide) hf31 (fun _ h9 => h9) rfl dX10_sums_6 ?_
    refine va_getN (D := G) (ci := 8) (v := .int t_twisting_modulus) (C := RX9) (T := TX9) (N := 2) hx hb hts inX9 hown hK hP 10 rfl rfl 1 (by decide) (hE.nest args 1 _ rfl) (fun _ h9 => h9) rfl dX10_sums_9 ?_
    obtain ⟨ht, hf⟩ := h
    refine lv_icmp_ge (tgt := 25) hx hb dX10_sums_12 (by decide) (fun c9 => ?_) (fun c9 => ?_)
    · have h := ht c9
      refine lv_iconst (v := -1) hx hb dX10_sums_25 (by decide) ?_
      exact hret (-1 : Int32) t_braid_ahead t_braid_now t_braid_tallies t_contrary_n t_contrary_cells H locs ls _ hP hD hS h dX10_sums_26
    · have h := hf c9
      refine lv_aload_n hx hb dX10_sums_15 rfl (lv_at hl 0 rfl) ?_
      refine va_get (D := G) (ci := 9) (v := .ref (B_t 0)) (C := RX10) (T := TX10) (N := 15) hx hb hts inX10 hown hK hP 0 rfl rfl 0 (by decide) hf14 (fun _ h9 => h9) rfl dX10_sums_16 ?_
      refine mc_iV ⟨hx, hb, hml, hown, hts⟩ hK hE hA hP hD hS (c_X7_isRack l G Y tF H.size (B_t 0) B_t_current t_current_n t_current_cells h) (cwV 0 hts gX10_sums_X7_isRack rfl rfl rfl (by decide +kernel) ⟨Nat.le_trans (by decide) hRf, Nat.le_trans (by decide) hRl⟩) (fun u => (w_X10_sums Y h_t B_t B_t_braid B_t_contrary B_t_current B_t_twisting t_toldCount t_braid_width t_braid_length t_braid_ahead t_braid_now t_braid_tallies t_braid_word t_contrary_n t_contrary_cells t_current_n t_current_cells t_twisting_modulus t_twisting_values)) [8, 9] [0, 1, 2, 3, 4, 5, 6, 7, 10, 11] [0, 1, 2, 3, 4, 5, 6, 7, 10, 11, 8, 9] rfl rfl rfl rfl (by decide) (fun _ => rfl) rfl 8 6 rfl rfl rfl rfl hl.1 rfl (Nat.le_of_ble_eq_true rfl) dX10_sums_19 (fun r19 u H locs h hP hD hS => ?_)
      try dsimp only at h
      have hP : va_P G vwCl (w_X10_sums Y h_t B_t B_t_braid B_t_contrary B_t_current B_t_twisting t_toldCount t_braid_width t_braid_length t_braid_ahead t_braid_now t_braid_tallies t_braid_word t_contrary_n t_contrary_cells t_current_n t_current_cells t_twisting_modulus t_twisting_values) H := hP
      have hD : va_D A (w_X10_sums Y h_t B_t B_t_braid B_t_contrary B_t_current B_t_twisting t_toldCount t_braid_width t_braid_length t_braid_ahead t_braid_now t_braid_tallies t_braid_word t_contrary_n t_contrary_cells t_current_n t_current_cells t_twisting_modulus t_twisting_values) := hD
      obtain ⟨ht, hf⟩ := h
      refine lv_if_ne (tgt := 27) hx hb dX10_sums_22 (by decide) (fun c9 => ?_) (fun c9 => ?_)
      · have h := ht c9
        refine lv_aload_n hx hb dX10_sums_27 rfl (lv_at hl 0 rfl) ?_
        refine va_get (D := G) (ci := 9) (v := .ref (B_t 2)) (C := RX10) (T := TX10) (N := 15) hx hb hts inX10 hown hK hP 0 rfl rfl 2 (by decide) hf21 (fun _ h9 => h9) rfl dX10_sums_28 ?_
        refine lv_aload_n hx hb dX10_sums_31 rfl (lv_at hl 0 rfl) ?_
        refine va_get (D := G) (ci := 9) (v := .ref (B_t 0)) (C := RX10) (T := TX10) (N := 15) hx hb hts inX10 hown hK hP 0 rfl rfl 0 (by decide) hf14 (fun _ h9 => h9) rfl dX10_sums_32 ?_
        refine mc_vV ⟨hx, hb, hml, hown, hts⟩ hK hE hA hP hD hS (c_X7_makeContrary l G Y tF H.size (B_t 2) (B_t 0) B_t_contrary B_t_current t_contrary_n t_contrary_cells t_current_n t_current_cells h) (cwV 1 hts gX10_sums_X7_makeContrary rfl rfl rfl (by decide +kernel) ⟨Nat.le_trans (by decide) hRf, Nat.le_trans (by decide) hRl⟩) (fun u => (w_X10_sums Y h_t B_t B_t_braid B_t_contrary B_t_current B_t_twisting t_toldCount t_braid_width t_braid_length t_braid_ahead t_braid_now t_braid_tallies t_braid_word u.1 u.2 t_current_n t_current_cells t_twisting_modulus t_twisting_values)) [6, 7, 8, 9] [0, 1, 2, 3, 4, 5, 10, 11] [0, 1, 2, 3, 4, 5, 8, 9, 10, 11, 6, 7] rfl rfl rfl rfl (by decide) (fun _ => rfl) rfl 6 6 rfl rfl rfl rfl hl.1 rfl (Nat.le_of_ble_eq_true rfl) dX10_sums_35 (fun u H locs h hP hD hS => ?_)
        obtain ⟨t_contrary_n_35, t_contrary_cells_35⟩ := u
        try dsimp only at h
        have hP : va_P G vwCl (w_X10_sums Y h_t B_t B_t_braid B_t_contrary B_t_current B_t_twisting t_toldCount t_braid_width t_braid_length t_braid_ahead t_braid_now t_braid_tallies t_braid_word t_contrary_n_35 t_contrary_cells_35 t_current_n t_current_cells t_twisting_modulus t_twisting_values) H := hP
        have hD : va_D A (w_X10_sums Y h_t B_t B_t_braid B_t_contrary B_t_current B_t_twisting t_toldCount t_braid_width t_braid_length t_braid_ahead t_braid_now t_braid_tallies t_braid_word t_contrary_n_35 t_contrary_cells_35 t_current_n t_current_cells t_twisting_modulus t_twisting_values) := hD
        refine lv_aload_n hx hb dX10_sums_38 rfl (lv_at hl 0 rfl) ?_
        refine va_get (D := G) (ci := 9) (v := .ref (B_t 5)) (C := RX10) (T := TX10) (N := 15) hx hb hts inX10 hown hK hP 0 rfl rfl 5 (by decide) hf38 (fun _ h9 => h9) rfl dX10_sums_39 ?_
        refine lv_aload_n hx hb dX10_sums_42 rfl (lv_at hl 0 rfl) ?_
        refine va_get (D := G) (ci := 9) (v := .ref (B_t 0)) (C := RX10) (T := TX10) (N := 15) hx hb hts inX10 hown hK hP 0 rfl rfl 0 (by decide) hf14 (fun _ h9 => h9) rfl dX10_sums_43 ?_
        refine lv_aload_n hx hb dX10_sums_46 rfl (lv_at hl 0 rfl) ?_
        refine va_get (D := G) (ci := 9) (v := .ref (B_t 2)) (C := RX10) (T := TX10) (N := 15) hx hb hts inX10 hown hK hP 0 rfl rfl 2 (by decide) hf21 (fun _ h9 => h9) rfl dX10_sums_47 ?_
        refine lv_aload_n hx hb dX10_sums_50 rfl (lv_at hl 0 rfl) ?_
        refine va_get (D := G) (ci := 9) (v := .ref (B_t 4)) (C := RX10) (T := TX10) (N := 15) hx hb hts inX10 hown hK hP 0 rfl rfl 4 (by decide) hf31 (fun _ h9 => h9) rfl dX10_sums_51 ?_
        refine mc_vV ⟨hx, hb, hml, hown, hts⟩ hK hE hA hP hD hS (c_X0_tally l G Y tF H.size (B_t 5) (B_t 0) (B_t 2) (B_t 4) B_t_braid B_t_current B_t_contrary B_t_twisting t_braid_width t_braid_length t_braid_ahead t_braid_now t_braid_tallies t_braid_word t_current_n t_current_cells t_contrary_n_35 t_contrary_cells_35 t_twisting_modulus t_twisting_values h) (cwV 3 hts gX10_sums_X0_tally rfl rfl rfl (by decide +kernel) ⟨Nat.le_trans (by decide) hRf, Nat.le_trans (by decide) hRl⟩) (fun u => (w_X10_sums Y h_t B_t B_t_braid B_t_contrary B_t_current B_t_twisting t_toldCount t_braid_width t_braid_length u.1 u.2.1 u.2.2 t_braid_word t_contrary_n_35 t_contrary_cells_35 t_current_n t_current_cells t_twisting_modulus t_twisting_values)) [1, 2, 3, 4, 5, 8, 9, 6, 7, 10, 11] [0] [0, 1, 2, 3, 4, 5, 8, 9, 6, 7, 10, 11] rfl rfl rfl rfl (by decide) (fun _ => rfl) rfl 1 0 rfl rfl rfl rfl hl.1 rfl (Nat.le_of_ble_eq_true rfl) dX10_sums_54 (fun u H locs h hP hD hS => ?_)
        obtain ⟨t_braid_ahead_54, t_braid_now_54, t_braid_tallies_54⟩ := u
        try dsimp only at h
        have hP : va_P G vwCl (w_X10_sums Y h_t B_t B_t_braid B_t_contrary B_t_current B_t_twisting t_toldCount t_braid_width t_braid_length t_braid_ahead_54 t_braid_now_54 t_braid_tallies_54 t_braid_word t_contrary_n_35 t_contrary_cells_35 t_current_n t_current_cells t_twisting_modulus t_twisting_values) H := hP
        have hD : va_D A (w_X10_sums Y h_t B_t B_t_braid B_t_contrary B_t_current B_t_twisting t_toldCount t_braid_width t_braid_length t_braid_ahead_54 t_braid_now_54 t_braid_tallies_54 t_braid_word t_contrary_n_35 t_contrary_cells_35 t_current_n t_current_cells t_twisting_modulus t_twisting_values) := hD
        refine lv_aload_n hx hb dX10_sums_57 rfl (lv_at hl 0 rfl) ?_
        refine va_get (D := G) (ci := 9) (v := .ref (B_t 5)) (C := RX10) (T := TX10) (N := 15) hx hb hts inX10 hown hK hP 0 rfl rfl 5 (by decide) hf38 (fun _ h9 => h9) rfl dX10_sums_58 ?_
        refine lv_iload_n hx hb dX10_sums_61 rfl (lv_at hl 1 rfl) ?_
        refine mc_iV ⟨hx, hb, hml, hown, hts⟩ hK hE hA hP hD hS (c_X0_tallied l G Y tF H.size (B_t 5) B_t_braid t_braid_width t_braid_length t_braid_tallies_54 x1 h) (cwV 1 hts gX10_sums_X0_tallied rfl rfl rfl (by decide +kernel) ⟨Nat.le_trans (by decide) hRf, Nat.le_trans (by decide) hRl⟩) (fun u => (w_X10_sums Y h_t B_t B_t_braid B_t_contrary B_t_current B_t_twisting t_toldCount t_braid_width t_braid_length t_braid_ahead_54 t_braid_now_54 t_braid_tallies_54 t_braid_word t_contrary_n_35 t_contrary_cells_35 t_current_n t_current_cells t_twisting_modulus t_twisting_values)) [1, 4] [0, 2, 3, 5, 6, 7, 8, 9, 10, 11] [0, 10, 1, 2, 11, 3, 4, 5, 6, 7, 8, 9] rfl rfl rfl rfl (by decide) (fun _ => rfl) rfl 1 0 rfl rfl rfl rfl hl.1 rfl (Nat.le_of_ble_eq_true rfl) dX10_sums_62 (fun r62 u H locs h hP hD hS => ?_)
        try dsimp only at h
        have hP : va_P G vwCl (w_X10_sums Y h_t B_t B_t_braid B_t_contrary B_t_current B_t_twisting t_toldCount t_braid_width t_braid_length t_braid_ahead_54 t_braid_now_54 t_braid_tallies_54 t_braid_word t_contrary_n_35 t_contrary_cells_35 t_current_n t_current_cells t_twisting_modulus t_twisting_values) H := hP
        have hD : va_D A (w_X10_sums Y h_t B_t B_t_braid B_t_contrary B_t_current B_t_twisting t_toldCount t_braid_width t_braid_length t_braid_ahead_54 t_braid_now_54 t_braid_tallies_54 t_braid_word t_contrary_n_35 t_contrary_cells_35 t_current_n t_current_cells t_twisting_modulus t_twisting_values) := hD
        exact hret r62 t_braid_ahead_54 t_braid_now_54 t_braid_tallies_54 t_contrary_n_35 t_contrary_cells_35 H locs ls _ hP hD hS h dX10_sums_65
      · have h := hf c9
        refine lv_iconst (v := -1) hx hb dX10_sums_25 (by decide) ?_
        exact hret (-1 : Int32) t_braid_ahead t_braid_now t_braid_tallies t_contrary_n t_contrary_cells H locs ls _ hP hD hS h dX10_sums_26

set_option maxHeartbeats 20000000 in
set_option maxRecDepth 100000 in
theorem c_X10_sums (l : Launch) (G : va_G) (Y : Nat → ClassId) (tF sz : Nat) (h_t : Nat) (B_t : Nat → Nat) (B_t_braid : Nat → Nat) (B_t_contrary : Nat → Nat) (B_t_current : Nat → Nat) (B_t_twisting : Nat → Nat) (t_toldCount : Int32) (t_braid_width : Int32) (t_braid_length : Int32) (t_braid_ahead : Nat → Int32) (t_braid_now : Nat → Int32) (t_braid_tallies : Nat → Int32) (t_braid_word : Nat → Int32) (t_contrary_n : Int32) (t_contrary_cells : Nat → Int32) (t_current_n : Int32) (t_current_cells : Nat → Int32) (t_twisting_modulus : Int32) (t_twisting_values : Nat → Int32) (x1 : Int32) {K : Int32 → (Nat → Int32) → (Nat → Int32) → (Nat → Int32) → Int32 → (Nat → Int32) → Prop} (h : pX10_sums t_braid_width t_braid_length t_braid_ahead t_braid_now t_braid_tallies t_braid_word t_contrary_n t_contrary_cells t_current_n t_current_cells t_twisting_modulus t_twisting_values x1 K) : Met l yX10_sums wsX10_sums ({ frames := 3, cells := 0, slots := 0, locals := 75 }) (PcM G Y tF sz (w_X10_sums Y h_t B_t B_t_braid B_t_contrary B_t_current B_t_twisting t_toldCount t_braid_width t_braid_length t_braid_ahead t_braid_now t_braid_tallies t_braid_word t_contrary_n t_contrary_cells t_current_n t_current_cells t_twisting_modulus t_twisting_values) [.ref h_t, .int x1]) (va_Qi (fun (r : Int32) (u : (Nat → Int32) × (Nat → Int32) × (Nat → Int32) × Int32 × (Nat → Int32)) => K r u.1 u.2.1 u.2.2.1 u.2.2.2.1 u.2.2.2.2) (fun u t => BM G Y (va_A (w_X10_sums Y h_t B_t B_t_braid B_t_contrary B_t_current B_t_twisting t_toldCount t_braid_width t_braid_length t_braid_ahead t_braid_now t_braid_tallies t_braid_word t_contrary_n t_contrary_cells t_current_n t_current_cells t_twisting_modulus t_twisting_values) sz) (w_X10_sums Y h_t B_t B_t_braid B_t_contrary B_t_current B_t_twisting t_toldCount t_braid_width t_braid_length u.1 u.2.1 u.2.2.1 t_braid_word u.2.2.2.1 u.2.2.2.2 t_current_n t_current_cells t_twisting_modulus t_twisting_values) t) (va_A (w_X10_sums Y h_t B_t B_t_braid B_t_contrary B_t_current B_t_twisting t_toldCount t_braid_width t_braid_length t_braid_ahead t_braid_now t_braid_tallies t_braid_word t_contrary_n t_contrary_cells t_current_n t_current_cells t_twisting_modulus t_twisting_values) sz)) 0 0 (va_A (w_X10_sums Y h_t B_t B_t_braid B_t_contrary B_t_current B_t_twisting t_toldCount t_braid_width t_braid_length t_braid_ahead t_braid_now t_braid_tallies t_braid_word t_contrary_n t_contrary_cells t_current_n t_current_cells t_twisting_modulus t_twisting_values) sz) := by
  refine Met.ofW (cc := cX10_sums) (maxL := 2) (ret := (some .int)) (by decide +kernel) rfl ?_
  intro p e s m args below meth c s₁ B hml hv
  obtain ⟨rfl, hsz, hP, hK, hD0, hE⟩ := hv
  have hts := atoms_spec (ws := wsX10_sums) B.pre
  have hown : s.vm.findClass RX10 = some m.cls := findClass_of_methodNamed B.named
  have hlocks := B.notSynchronized
  subst hsz
  have hD := hD0.self (sz := s.heap.size)
  exact wk_X10_sums h_t B_t B_t_braid B_t_contrary B_t_current B_t_twisting t_toldCount t_braid_width t_braid_length t_braid_ahead t_braid_now t_braid_tallies t_braid_word t_contrary_n t_contrary_cells t_current_n t_current_cells t_twisting_modulus t_twisting_values x1 B.exec B.bytes hml hown hts hK hE (fun q h => Or.inr h) (Nat.le_refl _) (Nat.le_refl _) (fun r t_braid_ahead t_braid_now t_braid_tallies t_contrary_n t_contrary_cells H locs ls pc hP hD hS hk hd => W.iret (v := r) B.exec B.bytes B.returns (fun t ht hW => ⟨⟨r, (t_braid_ahead, t_braid_now, t_braid_tallies, t_contrary_n, t_contrary_cells), rfl, hk, by rw [ht]; exact hP, va_K.moved hW.alike hK, hD⟩, hS.F ht⟩) hS.2.2 hd) hP hD h

abbrev w_X10_isList (Y : Nat → ClassId) : va_W := []

set_option maxHeartbeats 20000000 in
set_option maxRecDepth 100000 in
theorem wk_X10_isList {p : Program} {l : Launch} {e : Env} {R : Room} {s : State} {m : MethodId} {args : Array Value} {below : List Frame} {meth : Method} {c : Code} {Q : State → Prop} {G : va_G} {Y : Nat → ClassId} {tF : Nat} {A : Nat → Prop} (x0 : Int32) (x1 : Int32) {K : Int32 → Prop} (hx : p.tables.exec = Jvm.exec) (hb : c.code = cX10_isList) (hml : c.maxLocals = 2) (hown : s.vm.findClass RX10 = some m.cls) (hts : ∀ w ∈ wsX10_isList, w.before args s = true) (hK : va_K G vwCl (tyL Y) s) (hE : Ev A tF s) (hA : ∀ q, s.heap.size ≤ q → A q) (hRf : 0 ≤ R.frames) (hRl : 0 ≤ R.locals) (hret : ∀ (r : Int32)  (H : Heap) (locs : List Loc) (ls : Array Slot) (pc : Nat), va_P G vwCl (w_X10_isList Y) H → va_D A (w_X10_isList Y) → va_S A s.heap H locs → zb r → K r → decode cX10_isList pc = .ok (.ireturn, 1) → W p l e R s m args below meth c H locs 0 0 Q (F0 m pc ls [.int r])) (hP : va_P G vwCl (w_X10_isList Y) s.heap) (hD : va_D A (w_X10_isList Y)) (h : pX10_isList x0 x1 K) : W p l e R s m args below meth c s.heap [] 0 0 Q (entryFrame m ([.int x0, .int x1] : List Value).toArray 2) := by
  have hl := lv_entry ([.int x0, .int x1]) (n := 2) (Nat.le_of_ble_eq_true rfl)
  rw [lg_entry_eq]
  generalize (lg_sl ([.int x0, .int x1]) ++ List.replicate (2 - (lg_sl ([.int x0, .int x1])).length) Slot.unset).toArray = ls at hl ⊢
  have hl : lv_has ls 2 [(0, .int x0), (1, .int x1)] := hl
  generalize hH0 : s.heap = H at hP ⊢
  have hS : va_S A s.heap H [] := by rw [← hH0]; exact va_S.rf
  clear hH0
  generalize ([] : List Loc) = locs at hS ⊢
  have J23 : ∀  (H : Heap) (locs : List Loc) (ls : Array Slot), pX10_isList_23 K → va_P G vwCl (w_X10_isList Y) H → va_D A (w_X10_isList Y) → va_S A s.heap H locs → lv_has ls 2 [] → W p l e R s m args below meth c H locs 0 0 Q (F0 m 23 ls []) := by
    intro  H locs ls h hP hD hS hl
    refine lv_iconst (v := 0) hx hb dX10_isList_23 (by decide) ?_
    obtain ⟨hz, h⟩ := h
    exact hret (0 : Int32)  H locs ls _ hP hD hS hz h dX10_isList_24
  have J19 : ∀  (H : Heap) (locs : List Loc) (ls : Array Slot), pX10_isList_19 K → va_P G vwCl (w_X10_isList Y) H → va_D A (w_X10_isList Y) → va_S A s.heap H locs → lv_has ls 2 [] → W p l e R s m args below meth c H locs 0 0 Q (F0 m 19 ls []) := by
    intro  H locs ls h hP hD hS hl
    refine lv_iconst (v := 1) hx hb dX10_isList_19 (by decide) ?_
    refine lv_goto (tgt := 24) hx hb dX10_isList_20 (by decide) ?_
    obtain ⟨hz, h⟩ := h
    exact hret (1 : Int32)  H locs ls _ hP hD hS hz h dX10_isList_24
  refine lv_iload_n hx hb dX10_isList_0 rfl (lv_at hl 0 rfl) ?_
  refine lv_iconst (v := 1) hx hb dX10_isList_1 (by decide) ?_
  obtain ⟨ht, hf⟩ := h
  refine lv_icmp_lt (tgt := 23) hx hb dX10_isList_2 (by decide) (fun c9 => ?_) (fun c9 => ?_)
  · have h := ht c9
    exact J23  H locs ls h hP hD hS (lv_sub hl [] rfl)
  · have h := hf c9
    refine lv_iload_n hx hb dX10_isList_5 rfl (lv_at hl 0 rfl) ?_
    refine lv_iconst (v := 4) hx hb dX10_isList_6 (by decide) ?_
    obtain ⟨ht, hf⟩ := h
    refine lv_icmp_gt (tgt := 23) hx hb dX10_isList_7 (by decide) (fun c9 => ?_) (fun c9 => ?_)
    · have h := ht c9
      exact J23  H locs ls h hP hD hS (lv_sub hl [] rfl)
    · have h := hf c9
      refine lv_iload_n hx hb dX10_isList_10 rfl (lv_at hl 1 rfl) ?_
      obtain ⟨ht, hf⟩ := h
      refine lv_if_eq (tgt := 19) hx hb dX10_isList_11 (by decide) (fun c9 => ?_) (fun c9 => ?_)
      · have h := ht c9
        exact J19  H locs ls h hP hD hS (lv_sub hl [] rfl)
      · have h := hf c9
        refine lv_iload_n hx hb dX10_isList_14 rfl (lv_at hl 1 rfl) ?_
        refine lv_iconst (v := 1) hx hb dX10_isList_15 (by decide) ?_
        obtain ⟨ht, hf⟩ := h
        refine lv_icmp_ne (tgt := 23) hx hb dX10_isList_16 (by decide) (fun c9 => ?_) (fun c9 => ?_)
        · have h := ht c9
          exact J23  H locs ls h hP hD hS (lv_sub hl [] rfl)
        · have h := hf c9
          exact J19  H locs ls h hP hD hS (lv_sub hl [] rfl)

set_option maxHeartbeats 20000000 in
set_option maxRecDepth 100000 in
theorem c_X10_isList (l : Launch) (G : va_G) (Y : Nat → ClassId) (tF sz : Nat) (x0 : Int32) (x1 : Int32) {K : Int32 → Prop} (h : pX10_isList x0 x1 K) : Met l yX10_isList wsX10_isList ({ frames := 0, cells := 0, slots := 0, locals := 0 }) (PcM G Y tF sz (w_X10_isList Y) [.int x0, .int x1]) (va_Qi (fun (r : Int32) (u : Unit) => K r ) (fun u t => BM G Y (va_A (w_X10_isList Y) sz) (w_X10_isList Y) t) (va_A (w_X10_isList Y) sz)) 0 0 (va_A (w_X10_isList Y) sz) := by
  refine Met.ofW (cc := cX10_isList) (maxL := 2) (ret := (some .boolean)) (by decide +kernel) rfl ?_
  intro p e s m args below meth c s₁ B hml hv
  obtain ⟨rfl, hsz, hP, hK, hD0, hE⟩ := hv
  have hts := atoms_spec (ws := wsX10_isList) B.pre
  have hown : s.vm.findClass RX10 = some m.cls := findClass_of_methodNamed B.named
  have hlocks := B.notSynchronized
  subst hsz
  have hD := hD0.self (sz := s.heap.size)
  exact wk_X10_isList x0 x1 B.exec B.bytes hml hown hts hK hE (fun q h => Or.inr h) (Nat.le_refl _) (Nat.le_refl _) (fun r  H locs ls pc hP hD hS hz hk hd => W.zret (v := r) B.exec B.bytes B.returns hz.n (fun t ht hW => ⟨⟨r, (), rfl, hk, by rw [ht]; exact hP, va_K.moved hW.alike hK, hD⟩, hS.F ht⟩) hS.2.2 hd) hP hD h

abbrev w_X10_listed (Y : Nat → ClassId) (h_t : Nat) (B_t : Nat → Nat) (B_t_lister : Nat → Nat) (B_t_lister_racks : Nat → Nat) (B_t_lister_trial : Nat → Nat) (B_t_namer : Nat → Nat) (B_t_namer_best : Nat → Nat) (t_toldCount : Int32) (t_lister_racks : Nat → Nat → Int32) (t_lister_sizes : Nat → Int32) (t_lister_trial_n : Int32) (t_lister_trial_cells : Nat → Int32) (t_namer_named : Int32) (t_namer_best_n : Int32) (t_namer_best_cells : Nat → Int32) (t_namer_firstRow : Nat → Int32) (t_namer_names : Nat → Int32) (t_namer_things : Nat → Int32) (t_namer_twins : Nat → Int32) : va_W := [(h_t, .inr (9, [.ref (B_t 0), .ref (B_t 1), .ref (B_t 2), .ref (B_t 3), .ref (B_t 4), .ref (B_t 5), .ref (B_t 6), .ref (B_t 7), .ref (B_t 8), .ref (B_t 9), .ref (B_t 10), .ref (B_t 11), .ref (B_t 12), .ref (B_t 13), .int t_toldCount])), ((B_t 11), .inr (2, [.ref (B_t_lister 0), .ref (B_t_lister 1), .ref (B_t_lister 2)])), ((B_t_lister 0), .inl (Y 3, 5, .inr (.inr (.inr (.inr (fun i => if i < 5 then some (B_t_lister_racks i) else none)))))), ((B_t_lister_racks 0), .inl (Y 0, 19, .inl (t_lister_racks 0))), ((B_t_lister_racks 1), .inl (Y 0, 19, .inl (t_lister_racks 1))), ((B_t_lister_racks 2), .inl (Y 0, 19, .inl (t_lister_racks 2))), ((B_t_lister_racks 3), .inl (Y 0, 19, .inl (t_lister_racks 3))), ((B_t_lister_racks 4), .inl (Y 0, 19, .inl (t_lister_racks 4))), ((B_t_lister 1), .inl (Y 0, 5, .inl t_lister_sizes)), ((B_t_lister 2), .inr (6, [.ref (B_t_lister_trial 0), .int t_lister_trial_n])), ((B_t_lister_trial 0), .inl (Y 0, 64, .inl t_lister_trial_cells)), ((B_t 8), .inr (4, [.ref (B_t_namer 0), .ref (B_t_namer 1), .ref (B_t_namer 2), .ref (B_t_namer 3), .ref (B_t_namer 4), .int t_namer_named])), ((B_t_namer 0), .inr (6, [.ref (B_t_namer_best 0), .int t_namer_best_n])), ((B_t_namer_best 0), .inl (Y 0, 64, .inl t_namer_best_cells)), ((B_t_namer 4), .inl (Y 0, 8, .inl t_namer_firstRow)), ((B_t_namer 2), .inl (Y 0, 8, .inl t_namer_names)), ((B_t_namer 1), .inl (Y 0, 8, .inl t_namer_things)), ((B_t_namer 3), .inl (Y 0, 8, .inl t_namer_twins))]

set_option maxHeartbeats 20000000 in
set_option maxRecDepth 100000 in
theorem wk_X10_listed {p : Program} {l : Launch} {e : Env} {R : Room} {s : State} {m : MethodId} {args : Array Value} {below : List Frame} {meth : Method} {c : Code} {Q : State → Prop} {G : va_G} {Y : Nat → ClassId} {tF : Nat} {A : Nat → Prop} (h_t : Nat) (B_t : Nat → Nat) (B_t_lister : Nat → Nat) (B_t_lister_racks : Nat → Nat) (B_t_lister_trial : Nat → Nat) (B_t_namer : Nat → Nat) (B_t_namer_best : Nat → Nat) (t_toldCount : Int32) (t_lister_racks : Nat → Nat → Int32) (t_lister_sizes : Nat → Int32) (t_lister_trial_n : Int32) (t_lister_trial_cells : Nat → Int32) (t_namer_named : Int32) (t_namer_best_n : Int32) (t_namer_best_cells : Nat → Int32) (t_namer_firstRow : Nat → Int32) (t_namer_names : Nat → Int32) (t_namer_things : Nat → Int32) (t_namer_twins : Nat → Int32) (x1 : Int32) (x2 : Int32) {K : Int32 → (Nat → Nat → Int32) → (Nat → Int32) → Int32 → (Nat → Int32) → Int32 → Int32 → (Nat → Int32) → (Nat → Int32) → (Nat → Int32) → (Nat → Int32) → (Nat → Int32) → Prop} (hx : p.tables.exec = Jvm.exec) (hb : c.code = cX10_listed) (hml : c.maxLocals = 3) (hown : s.vm.findClass RX10 = some m.cls) (hts : ∀ w ∈ wsX10_listed, w.before args s = true) (hK : va_K G vwCl (tyL Y) s) (hE : Ev A tF s) (hA : ∀ q, s.heap.size ≤ q → A q) (hRf : 32 ≤ R.frames) (hRl : 746 ≤ R.locals) (hret : ∀ (r : Int32) (t_lister_racks : Nat → Nat → Int32) (t_lister_sizes : Nat → Int32) (t_lister_trial_n : Int32) (t_lister_trial_cells : Nat → Int32) (t_namer_named : Int32) (t_namer_best_n : Int32) (t_namer_best_cells : Nat → Int32) (t_namer_firstRow : Nat → Int32) (t_namer_names : Nat → Int32) (t_namer_things : Nat → Int32) (t_namer_twins : Nat → Int32) (H : Heap) (locs : List Loc) (ls : Array Slot) (pc : Nat), va_P G vwCl (w_X10_listed Y h_t B_t B_t_lister B_t_lister_racks B_t_lister_trial B_t_namer B_t_namer_best t_toldCount t_lister_racks t_lister_sizes t_lister_trial_n t_lister_trial_cells t_namer_named t_namer_best_n t_namer_best_cells t_namer_firstRow t_namer_names t_namer_things t_namer_twins) H → va_D A (w_X10_listed Y h_t B_t B_t_lister B_t_lister_racks B_t_lister_trial B_t_namer B_t_namer_best t_toldCount t_lister_racks t_lister_sizes t_lister_trial_n t_lister_trial_cells t_namer_named t_namer_best_n t_namer_best_cells t_namer_firstRow t_namer_names t_namer_things t_namer_twins) → va_S A s.heap H locs → K r t_lister_racks t_lister_sizes t_lister_trial_n t_lister_trial_cells t_namer_named t_namer_best_n t_namer_best_cells t_namer_firstRow t_namer_names t_namer_things t_namer_twins → decode cX10_listed pc = .ok (.ireturn, 1) → W p l e R s m args below meth c H locs 0 0 Q (F0 m pc ls [.int r])) (hP : va_P G vwCl (w_X10_listed Y h_t B_t B_t_lister B_t_lister_racks B_t_lister_trial B_t_namer B_t_namer_best t_toldCount t_lister_racks t_lister_sizes t_lister_trial_n t_lister_trial_cells t_namer_named t_namer_best_n t_namer_best_cells t_namer_firstRow t_namer_names t_namer_things t_namer_twins) s.heap) (hD : va_D A (w_X10_listed Y h_t B_t B_t_lister B_t_lister_racks B_t_lister_trial B_t_namer B_t_namer_best t_toldCount t_lister_racks t_lister_sizes t_lister_trial_n t_lister_trial_cells t_namer_named t_namer_best_n t_namer_best_cells t_namer_firstRow t_namer_names t_namer_things t_namer_twins)) (h : pX10_listed t_lister_racks t_lister_sizes t_lister_trial_n t_lister_trial_cells t_namer_named t_namer_best_n t_namer_best_cells t_namer_firstRow t_namer_names t_namer_things t_namer_twins x1 x2 K) : W p l e R s m args below meth c s.heap [] 0 0 Q (entryFrame m ([.ref h_t, .int x1, .int x2] : List Value).toArray 3) := by
  have inX10 : ∀ w ∈ u_ws RX10 TX10 15, w ∈ wsX10_listed := by decide +kernel
  have hf59 := hts (.fieldLink RX10 59 "RackBench" "namer" "LRackBench$Namer;") (by decide +kernel)
  have hf80 := hts (.fieldLink RX10 80 "RackBench" "lister" "LRackBench$Lister;") (by decide +kernel)
  have hl := lv_entry ([.ref h_t, .int x1, .int x2]) (n := 3) (Nat.le_of_ble_eq_true rfl)
  rw [lg_entry_eq]
  generalize (lg_sl ([.ref h_t, .int x1, .int x2]) ++ List.replicate (3 - (lg_sl ([.ref h_t, .int x1, .int x2])).length) Slot.unset).toArray = ls at hl ⊢
  have hl : lv_has ls 3 [(0, .ref h_t), (1, .int x1), (2, .int x2)] := hl
  generalize hH0 : s.heap = H at hP ⊢
  have hS : va_S A s.heap H [] := by rw [← hH0]; exact va_S.rf
  clear hH0
  generalize ([] : List Loc) = locs at hS ⊢
  have J25 : ∀ (s1 : Int32) (s2 : Int32) (t_lister_racks : Nat → Nat → Int32) (t_lister_sizes : Nat → Int32) (t_lister_trial_n : Int32) (t_lister_trial_cells : Nat → Int32) (t_namer_named : Int32) (t_namer_best_n : Int32) (t_namer_best_cells : Nat → Int32) (t_namer_firstRow : Nat → Int32) (t_namer_names : Nat → Int32) (t_namer_things : Nat → Int32) (t_namer_twins : Nat → Int32) (H : Heap) (locs : List Loc) (ls : Array Slot), pX10_listed_25 K s1 s2 t_lister_racks t_lister_sizes t_lister_trial_n t_lister_trial_cells t_namer_named t_namer_best_n t_namer_best_cells t_namer_firstRow t_namer_names t_namer_things t_namer_twins → va_P G vwCl (w_X10_listed Y h_t B_t B_t_lister B_t_lister_racks B_t_lister_trial B_t_namer B_t_namer_best t_toldCount t_lister_racks t_lister_sizes t_lister_trial_n t_lister_trial_cells t_namer_named t_namer_best_n t_namer_best_cells t_namer_firstRow t_namer_names t_namer_things t_namer_twins) H → va_D A (w_X10_listed Y h_t B_t B_t_lister B_t_lister_racks B_t_lister_trial B_t_namer B_t_namer_best t_toldCount t_lister_racks t_lister_sizes t_lister_trial_n t_lister_trial_cells t_namer_named t_namer_best_n t_namer_best_cells t_namer_firstRow t_namer_names t_namer_things t_namer_twins) → va_S A s.heap H locs → lv_has ls 3 [(0, .ref h_t)] → W p l e R s m args below meth c H locs 0 0 Q (F0 m 25 ls [.int s2, .int s1, .ref (B_t 11)]) := by
    intro s1 s2 t_lister_racks t_lister_sizes t_lister_trial_n t_lister_trial_cells t_namer_named t_namer_best_n t_namer_best_cells t_namer_firstRow t_namer_names t_namer_things t_namer_twins H locs ls h hP hD hS hl
    refine lv_aload_n hx hb dX10_listed_25 rfl (lv_at hl 0 rfl) ?_
    refine va_get (D := G) (ci := 9) (v := .ref (B_t 8)) (C := RX10) (T := TX10) (N := 15) hx hb hts inX10 hown hK hP 0 rfl rfl 8 (by decide) hf59 (fun _ h9 => h9) rfl dX10_listed_26 ?_
    refine mc_iV ⟨hx, hb, hml, hown, hts⟩ hK hE hA hP hD hS (c_X2_sizeOf l G Y tF H.size (B_t 11) (B_t 8) B_t_lister B_t_lister_racks B_t_lister_trial B_t_namer B_t_namer_best t_lister_racks t_lister_sizes t_lister_trial_n t_lister_trial_cells t_namer_named t_namer_best_n t_namer_best_cells t_namer_firstRow t_namer_names t_namer_things t_namer_twins s1 s2 h) (cwV 3 hts gX10_listed_X2_sizeOf rfl rfl rfl (by decide +kernel) ⟨Nat.le_trans (by decide) hRf, Nat.le_trans (by decide) hRl⟩) (fun u => (w_X10_listed Y h_t B_t B_t_lister B_t_lister_racks B_t_lister_trial B_t_namer B_t_namer_best t_toldCount u.1 u.2.1 u.2.2.1 u.2.2.2.1 u.2.2.2.2.1 u.2.2.2.2.2.1 u.2.2.2.2.2.2.1 u.2.2.2.2.2.2.2.1 u.2.2.2.2.2.2.2.2.1 u.2.2.2.2.2.2.2.2.2.1 u.2.2.2.2.2.2.2.2.2.2)) [1, 2, 3, 4, 5, 6, 7, 8, 9, 10, 11, 12, 13, 14, 15, 16, 17] [0] [0, 1, 2, 3, 4, 5, 6, 7, 8, 9, 10, 11, 12, 13, 14, 15, 16, 17] rfl rfl rfl rfl (by decide) (fun _ => rfl) rfl 1 2 rfl rfl rfl rfl hl.1 rfl (Nat.le_of_ble_eq_true rfl) dX10_listed_29 (fun r29 u H locs h hP hD hS => ?_)
    obtain ⟨t_lister_racks_29, t_lister_sizes_29, t_lister_trial_n_29, t_lister_trial_cells_29, t_namer_named_29, t_namer_best_n_29, t_namer_best_cells_29, t_namer_firstRow_29, t_namer_names_29, t_namer_things_29, t_namer_twins_29⟩ := u
    try dsimp only at h
    have hP : va_P G vwCl (w_X10_listed Y h_t B_t B_t_lister B_t_lister_racks B_t_lister_trial B_t_namer B_t_namer_best t_toldCount t_lister_racks_29 t_lister_sizes_29 t_lister_trial_n_29 t_lister_trial_cells_29 t_namer_named_29 t_namer_best_n_29 t_namer_best_cells_29 t_namer_firstRow_29 t_namer_names_29 t_namer_things_29 t_namer_twins_29) H := hP
    have hD : va_D A (w_X10_listed Y h_t B_t B_t_lister B_t_lister_racks B_t_lister_trial B_t_namer B_t_namer_best t_toldCount t_lister_racks_29 t_lister_sizes_29 t_lister_trial_n_29 t_lister_trial_cells_29 t_namer_named_29 t_namer_best_n_29 t_namer_best_cells_29 t_namer_firstRow_29 t_namer_names_29 t_namer_things_29 t_namer_twins_29) := hD
    exact hret r29 t_lister_racks_29 t_lister_sizes_29 t_lister_trial_n_29 t_lister_trial_cells_29 t_namer_named_29 t_namer_best_n_29 t_namer_best_cells_29 t_namer_firstRow_29 t_namer_names_29 t_namer_things_29 t_namer_twins_29 H locs ls _ hP hD hS h dX10_listed_32
  refine lv_iload_n hx hb dX10_listed_0 rfl (lv_at hl 1 rfl) ?_
  refine lv_iload_n hx hb dX10_listed_1 rfl (lv_at hl 2 rfl) ?_
  refine mc_iS ⟨hx, hb, hml, hown, hts⟩ hK hE hA hP hD hS (c_X10_isList l G Y tF H.size x1 x2 h) (va_cwS 2 hts gX10_listed_X10_isList rfl rfl rfl (by decide +kernel) ⟨Nat.le_trans (by decide) hRf, Nat.le_trans (by decide) hRl⟩) (fun u => (w_X10_listed Y h_t B_t B_t_lister B_t_lister_racks B_t_lister_trial B_t_namer B_t_namer_best t_toldCount t_lister_racks t_lister_sizes t_lister_trial_n t_lister_trial_cells t_namer_named t_namer_best_n t_namer_best_cells t_namer_firstRow t_namer_names t_namer_things t_namer_twins)) [] [0, 1, 2, 3, 4, 5, 6, 7, 8, 9, 10, 11, 12, 13, 14, 15, 16, 17] [0, 1, 2, 3, 4, 5, 6, 7, 8, 9, 10, 11, 12, 13, 14, 15, 16, 17] rfl rfl rfl rfl (by decide) (fun _ => rfl) rfl rfl hl.1 rfl (Nat.le_of_ble_eq_true rfl) dX10_listed_2 (fun r2 u H locs h hP hD hS => ?_)
  try dsimp only at h
  have hP : va_P G vwCl (w_X10_listed Y h_t B_t B_t_lister B_t_lister_racks B_t_lister_trial B_t_namer B_t_namer_best t_toldCount t_lister_racks t_lister_sizes t_lister_trial_n t_lister_trial_cells t_namer_named t_namer_best_n t_namer_best_cells t_namer_firstRow t_namer_names t_namer_things t_namer_twins) H := hP
  have hD : va_D A (w_X10_listed Y h_t B_t B_t_lister B_t_lister_racks B_t_lister_trial B_t_namer B_t_namer_best t_toldCount t_lister_racks t_lister_sizes t_lister_trial_n t_lister_trial_cells t_namer_named t_namer_best_n t_namer_best_cells t_namer_firstRow t_namer_names t_namer_things t_namer_twins) := hD
  obtain ⟨ht, hf⟩ := h
  refine lv_if_ne (tgt := 10) hx hb dX10_listed_5 (by decide) (fun c9 => ?_) (fun c9 => ?_)
  · have h := ht c9
    refine lv_aload_n hx hb dX10_listed_10 rfl (lv_at hl 0 rfl) ?_
    refine va_get (D := G) (ci := 9) (v := .ref (B_t 11)) (C := RX10) (T := TX10) (N := 15) hx hb hts inX10 hown hK hP 0 rfl rfl 11 (by decide) hf80 (fun _ h9 => h9) rfl dX10_listed_11 ?_
    refine lv_iload_n hx hb dX10_listed_14 rfl (lv_at hl 1 rfl) ?_
    refine lv_iload_n hx hb dX10_listed_15 rfl (lv_at hl 2 rfl) ?_
    refine lv_iconst (v := 1) hx hb dX10_listed_16 (by decide) ?_
    obtain ⟨ht, hf⟩ := h
    refine lv_icmp_ne (tgt := 24) hx hb dX10_listed_17 (by decide) (fun c9 => ?_) (fun c9 => ?_)
    · have h := ht c9
      refine lv_iconst (v := 0) hx hb dX10_listed_24 (by decide) ?_
      exact J25 x1 (0 : Int32) t_lister_racks t_lister_sizes t_lister_trial_n t_lister_trial_cells t_namer_named t_namer_best_n t_namer_best_cells t_namer_firstRow t_namer_names t_namer_things t_namer_twins H locs ls h hP hD hS (lv_sub hl [0] rfl)
    · have h := hf c9
      refine lv_iconst (v := 1) hx hb dX10_listed_20 (by decide) ?_
      refine lv_goto (tgt := 25) hx hb dX10_listed_21 (by decide) ?_
      exact J25 x1 (1 : Int32) t_lister_racks t_lister_sizes t_lister_trial_n t_lister_trial_cells t_namer_named t_namer_best_n t_namer_best_cells t_namer_firstRow t_namer_names t_namer_things t_namer_twins H locs ls h hP hD hS (lv_sub hl [0] rfl)
  · have h := hf c9
    refine lv_iconst (v := -1) hx hb dX10_listed_8 (by decide) ?_
    exact hret (-1 : Int32) t_lister_racks t_lister_sizes t_lister_trial_n t_lister_trial_cells t_namer_named t_namer_best_n t_namer_best_cells t_namer_firstRow t_namer_names t_namer_things t_namer_twins H locs ls _ hP hD hS h dX10_listed_9

set_option maxHeartbeats 20000000 in
set_option maxRecDepth 100000 in
theorem c_X10_listed (l : Launch) (G : va_G) (Y : Nat → ClassId) (tF sz : Nat) (h_t : Nat) (B_t : Nat → Nat) (B_t_lister : Nat → Nat) (B_t_lister_racks : Nat → Nat) (B_t_lister_trial : Nat → Nat) (B_t_namer : Nat → Nat) (B_t_namer_best : Nat → Nat) (t_toldCount : Int32) (t_lister_racks : Nat → Nat → Int32) (t_lister_sizes : Nat → Int32) (t_lister_trial_n : Int32) (t_lister_trial_cells : Nat → Int32) (t_namer_named : Int32) (t_namer_best_n : Int32) (t_namer_best_cells : Nat → Int32) (t_namer_firstRow : Nat → Int32) (t_namer_names : Nat → Int32) (t_namer_things : Nat → Int32) (t_namer_twins : Nat → Int32) (x1 : Int32) (x2 : Int32) {K : Int32 → (Nat → Nat → Int32) → (Nat → Int32) → Int32 → (Nat → Int32) → Int32 → Int32 → (Nat → Int32) → (Nat → Int32) → (Nat → Int32) → (Nat → Int32) → (Nat → Int32) → Prop} (h : pX10_listed t_lister_racks t_lister_sizes t_lister_trial_n t_lister_trial_cells t_namer_named t_namer_best_n t_namer_best_cells t_namer_firstRow t_namer_names t_namer_things t_namer_twins x1 x2 K) : Met l yX10_listed wsX10_listed ({ frames := 32, cells := 0, slots := 0, locals := 746 }) (PcM G Y tF sz (w_X10_listed Y h_t B_t B_t_lister B_t_lister_racks B_t_lister_trial B_t_namer B_t_namer_best t_toldCount t_lister_racks t_lister_sizes t_lister_trial_n t_lister_trial_cells t_namer_named t_namer_best_n t_namer_best_cells t_namer_firstRow t_namer_names t_namer_things t_namer_twins) [.ref h_t, .int x1, .int x2]) (va_Qi (fun (r : Int32) (u : (Nat → Nat → Int32) × (Nat → Int32) × Int32 × (Nat → Int32) × Int32 × Int32 × (Nat → Int32) × (Nat → Int32) × (Nat → Int32) × (Nat → Int32) × (Nat → Int32)) => K r u.1 u.2.1 u.2.2.1 u.2.2.2.1 u.2.2.2.2.1 u.2.2.2.2.2.1 u.2.2.2.2.2.2.1 u.2.2.2.2.2.2.2.1 u.2.2.2.2.2.2.2.2.1 u.2.2.2.2.2.2.2.2.2.1 u.2.2.2.2.2.2.2.2.2.2) (fun u t => BM G Y (va_A (w_X10_listed Y h_t B_t B_t_lister B_t_lister_racks B_t_lister_trial B_t_namer B_t_namer_best t_toldCount t_lister_racks t_lister_sizes t_lister_trial_n t_lister_trial_cells t_namer_named t_namer_best_n t_namer_best_cells t_namer_firstRow t_namer_names t_namer_things t_namer_twins) sz) (w_X10_listed Y h_t B_t B_t_lister B_t_lister_racks B_t_lister_trial B_t_namer B_t_namer_best t_toldCount u.1 u.2.1 u.2.2.1 u.2.2.2.1 u.2.2.2.2.1 u.2.2.2.2.2.1 u.2.2.2.2.2.2.1 u.2.2.2.2.2.2.2.1 u.2.2.2.2.2.2.2.2.1 u.2.2.2.2.2.2.2.2.2.1 u.2.2.2.2.2.2.2.2.2.2) t) (va_A (w_X10_listed Y h_t B_t B_t_lister B_t_lister_racks B_t_lister_trial B_t_namer B_t_namer_best t_toldCount t_lister_racks t_lister_sizes t_lister_trial_n t_lister_trial_cells t_namer_named t_namer_best_n t_namer_best_cells t_namer_firstRow t_namer_names t_namer_things t_namer_twins) sz)) 0 0 (va_A (w_X10_listed Y h_t B_t B_t_lister B_t_lister_racks B_t_lister_trial B_t_namer B_t_namer_best t_toldCount t_lister_racks t_lister_sizes t_lister_trial_n t_lister_trial_cells t_namer_named t_namer_best_n t_namer_best_cells t_namer_firstRow t_namer_names t_namer_things t_namer_twins) sz) := by
  refine Met.ofW (cc := cX10_listed) (maxL := 3) (ret := (some .int)) (by decide +kernel) rfl ?_
  intro p e s m args below meth c s₁ B hml hv
  obtain ⟨rfl, hsz, hP, hK, hD0, hE⟩ := hv
  have hts := atoms_spec (ws := wsX10_listed) B.pre
  have hown : s.vm.findClass RX10 = some m.cls := findClass_of_methodNamed B.named
  have hlocks := B.notSynchronized
  subst hsz
  have hD := hD0.self (sz := s.heap.size)
  exact wk_X10_listed h_t B_t B_t_lister B_t_lister_racks B_t_lister_trial B_t_namer B_t_namer_best t_toldCount t_lister_racks t_lister_sizes t_lister_trial_n t_lister_trial_cells t_namer_named t_namer_best_n t_namer_best_cells t_namer_firstRow t_namer_names t_namer_things t_namer_twins x1 x2 B.exec B.bytes hml hown hts hK hE (fun q h => Or.inr h) (Nat.le_refl _) (Nat.le_refl _) (fun r t_lister_racks t_lister_sizes t_lister_trial_n t_lister_trial_cells t_namer_named t_namer_best_n t_namer_best_cells t_namer_firstRow t_namer_names t_namer_things t_namer_twins H locs ls pc hP hD hS hk hd => W.iret (v := r) B.exec B.bytes B.returns (fun t ht hW => ⟨⟨r, (t_lister_racks, t_lister_sizes, t_lister_trial_n, t_lister_trial_cells, t_namer_named, t_namer_best_n, t_namer_best_cells, t_namer_firstRow, t_namer_names, t_namer_things, t_namer_twins), rfl, hk, by rw [ht]; exact hP, va_K.moved hW.alike hK, hD⟩, hS.F ht⟩) hS.2.2 hd) hP hD h

abbrev w_X10_pick (Y : Nat → ClassId) (h_t : Nat) (B_t : Nat → Nat) (B_t_current : Nat → Nat) (B_t_draft : Nat → Nat) (B_t_lister : Nat → Nat) (B_t_lister_racks : Nat → Nat) (B_t_lister_trial : Nat → Nat) (B_t_namer : Nat → Nat) (B_t_namer_best : Nat → Nat) (B_t_twisting : Nat → Nat) (t_toldCount : Int32) (t_current_n : Int32) (t_current_cells : Nat → Int32) (t_draft_n : Int32) (t_draft_cells : Nat → Int32) (t_lister_racks : Nat → Nat → Int32) (t_lister_sizes : Nat → Int32) (t_lister_trial_n : Int32) (t_lister_trial_cells : Nat → Int32) (t_namer_named : Int32) (t_namer_best_n : Int32) (t_namer_best_cells : Nat → Int32) (t_namer_firstRow : Nat → Int32) (t_namer_names : Nat → Int32) (t_namer_things : Nat → Int32) (t_namer_twins : Nat → Int32) (t_twisting_modulus : Int32) (t_twisting_values : Nat → Int32) : va_W := [(h_t, .inr (9, [.ref (B_t 0), .ref (B_t 1), .ref (B_t 2), .ref (B_t 3), .ref (B_t 4), .ref (B_t 5), .ref (B_t 6), .ref (B_t 7), .ref (B_t 8), .ref (B_t 9), .ref (B_t 10), .ref (B_t 11), .ref (B_t 12), .ref (B_t 13), .int t_toldCount])), ((B_t 0), .inr (6, [.ref (B_t_current 0), .int t_current_n])), ((B_t_current 0), .inl (Y 0, 64, .inl t_current_cells)), ((B_t 1), .inr (6, [.ref (B_t_draft 0), .int t_draft_n])), ((B_t_draft 0), .inl (Y 0, 64, .inl t_draft_cells)), ((B_t 11), .inr (2, [.ref (B_t_lister 0), .ref (B_t_lister 1), .ref (B_t_lister 2)])), ((B_t_lister 0), .inl (Y 3, 5, .inr (.inr (.inr (.inr (fun i => if i < 5 then some (B_t_lister_racks i) else none)))))), ((B_t_lister_racks 0), .inl (Y 0, 19, .inl (t_lister_racks 0))), ((B_t_lister_racks 1), .inl (Y 0, 19, .inl (t_lister_racks 1))), ((B_t_lister_racks 2), .inl (Y 0, 19, .inl (t_lister_racks 2))), ((B_t_lister_racks 3), .inl (Y 0, 19, .inl (t_lister_racks 3))), ((B_t_lister_racks 4), .inl (Y 0, 19, .inl (t_lister_racks 4))), ((B_t_lister 1), .inl (Y 0, 5, .inl t_lister_sizes)), ((B_t_lister 2), .inr (6, [.ref (B_t_lister_trial 0), .int t_lister_trial_n])), ((B_t_lister_trial 0), .inl (Y 0, 64, .inl t_lister_trial_cells)), ((B_t 8), .inr (4, [.ref (B_t_namer 0), .ref (B_t_namer 1), .ref (B_t_namer 2), .ref (B_t_namer 3), .ref (B_t_namer 4), .int t_namer_named])), ((B_t_namer 0), .inr (6, [.ref (B_t_namer_best 0), .int t_namer_best_n])), ((B_t_namer_best 0), .inl (Y 0, 64, .inl t_namer_best_cells)), ((B_t_namer 4), .inl (Y 0, 8, .inl t_namer_firstRow)), ((B_t_namer 2), .inl (Y 0, 8, .inl t_namer_names)), ((B_t_namer 1), .inl (Y 0, 8, .inl t_namer_things)), ((B_t_namer 3), .inl (Y 0, 8, .inl t_namer_twins)), ((B_t 4), .inr (8, [.ref (B_t_twisting 0), .int t_twisting_modulus])), ((B_t_twisting 0), .inl (Y 0, 64, .inl t_twisting_values))]

set_option maxHeartbeats 20000000 in
set_option maxRecDepth 100000 in
theorem wk_X10_pick {p : Program} {l : Launch} {e : Env} {R : Room} {s : State} {m : MethodId} {args : Array Value} {below : List Frame} {meth : Method} {c : Code} {Q : State → Prop} {G : va_G} {Y : Nat → ClassId} {tF : Nat} {A : Nat → Prop} (h_t : Nat) (B_t : Nat → Nat) (B_t_current : Nat → Nat) (B_t_draft : Nat → Nat) (B_t_lister : Nat → Nat) (B_t_lister_racks : Nat → Nat) (B_t_lister_trial : Nat → Nat) (B_t_namer : Nat → Nat) (B_t_namer_best : Nat → Nat) (B_t_twisting : Nat → Nat) (t_toldCount : Int32) (t_current_n : Int32) (t_current_cells : Nat → Int32) (t_draft_n : Int32) (t_draft_cells : Nat → Int32) (t_lister_racks : Nat → Nat → Int32) (t_lister_sizes : Nat → Int32) (t_lister_trial_n : Int32) (t_lister_trial_cells : Nat → Int32) (t_namer_named : Int32) (t_namer_best_n : Int32) (t_namer_best_cells : Nat → Int32) (t_namer_firstRow : Nat → Int32) (t_namer_names : Nat → Int32) (t_namer_things : Nat → Int32) (t_namer_twins : Nat → Int32) (t_twisting_modulus : Int32) (t_twisting_values : Nat → Int32) (x1 : Int32) (x2 : Int32) (x3 : Int32) {K : Int32 → Int32 → (Nat → Int32) → Int32 → (Nat → Int32) → (Nat → Nat → Int32) → (Nat → Int32) → Int32 → (Nat → Int32) → Int32 → Int32 → (Nat → Int32) → (Nat → Int32) → (Nat → Int32) → (Nat → Int32) → (Nat → Int32) → (Nat → Int32) → Prop} (hx : p.tables.exec = Jvm.exec) (hb : c.code = cX10_pick) (hml : c.maxLocals = 4) (hown : s.vm.findClass RX10 = some m.cls) (hts : ∀ w ∈ wsX10_pick, w.before args s = true) (hK : va_K G vwCl (tyL Y) s) (hE : Ev A tF s) (hA : ∀ q, s.heap.size ≤ q → A q) (hRf : 32 ≤ R.frames) (hRl : 746 ≤ R.locals) (hret : ∀ (r : Int32) (t_current_n : Int32) (t_current_cells : Nat → Int32) (t_draft_n : Int32) (t_draft_cells : Nat → Int32) (t_lister_racks : Nat → Nat → Int32) (t_lister_sizes : Nat → Int32) (t_lister_trial_n : Int32) (t_lister_trial_cells : Nat → Int32) (t_namer_named : Int32) (t_namer_best_n : Int32) (t_namer_best_cells : Nat → Int32) (t_namer_firstRow : Nat → Int32) (t_namer_names : Nat → Int32) (t_namer_things : Nat → Int32) (t_namer_twins : Nat → Int32) (t_twisting_values : Nat → Int32) (H : Heap) (locs : List Loc) (ls : Array Slot) (pc : Nat), va_P G vwCl (w_X10_pick Y h_t B_t B_t_current B_t_draft B_t_lister B_t_lister_racks B_t_lister_trial B_t_namer B_t_namer_best B_t_twisting t_toldCount t_current_n t_current_cells t_draft_n t_draft_cells t_lister_racks t_lister_sizes t_lister_trial_n t_lister_trial_cells t_namer_named t_namer_best_n t_namer_best_cells t_namer_firstRow t_namer_names t_namer_things t_namer_twins t_twisting_modulus t_twisting_values) H → va_D A (w_X10_pick Y h_t B_t B_t_current B_t_draft B_t_lister B_t_lister_racks B_t_lister_trial B_t_namer B_t_namer_best B_t_twisting t_toldCount t_current_n t_current_cells t_draft_n t_draft_cells t_lister_racks t_lister_sizes t_lister_trial_n t_lister_trial_cells t_namer_named t_namer_best_n t_namer_best_cells t_namer_firstRow t_namer_names t_namer_things t_namer_twins t_twisting_modulus t_twisting_values) → va_S A s.heap H locs → zb r → K r t_current_n t_current_cells t_draft_n t_draft_cells t_lister_racks t_lister_sizes t_lister_trial_n t_lister_trial_cells t_namer_named t_namer_best_n t_namer_best_cells t_namer_firstRow t_namer_names t_namer_things t_namer_twins t_twisting_values → decode cX10_pick pc = .ok (.ireturn, 1) → W p l e R s m args below meth c H locs 0 0 Q (F0 m pc ls [.int r])) (hP : va_P G vwCl (w_X10_pick Y h_t B_t B_t_current B_t_draft B_t_lister B_t_lister_racks B_t_lister_trial B_t_namer B_t_namer_best B_t_twisting t_toldCount t_current_n t_current_cells t_draft_n t_draft_cells t_lister_racks t_lister_sizes t_lister_trial_n t_lister_trial_cells t_namer_named t_namer_best_n t_namer_best_cells t_namer_firstRow t_namer_names t_namer_things t_namer_twins t_twisting_modulus t_twisting_values) s.heap) (hD : va_D A (w_X10_pick Y h_t B_t B_t_current B_t_draft B_t_lister B_t_lister_racks B_t_lister_trial B_t_namer B_t_namer_best B_t_twisting t_toldCount t_current_n t_current_cells t_draft_n t_draft_cells t_lister_racks t_lister_sizes t_lister_trial_n t_lister_trial_cells t_namer_named t_namer_best_n t_namer_best_cells t_namer_firstRow t_namer_names t_namer_things t_namer_twins t_twisting_modulus t_twisting_values)) (h : pX10_pick t_current_n t_current_cells t_draft_n t_draft_cells t_lister_racks t_lister_sizes t_lister_trial_n t_lister_trial_cells t_namer_named t_namer_best_n t_namer_best_cells t_namer_firstRow t_namer_names t_namer_things t_namer_twins t_twisting_values x1 x2 x3 K) : W p l e R s m args below meth c s.heap [] 0 0 Q (entryFrame m ([.ref h_t, .int x1, .int x2, .int x3] : List Value).toArray 4) := by
  have inX10 : ∀ w ∈ u_ws RX10 TX10 15, w ∈ wsX10_pick := by decide +kernel
  have hf18 := hts (.fieldLink RX10 18 "RackBench" "draft" "LRackBench$Table;") (by decide +kernel)
  have hf59 := hts (.fieldLink RX10 59 "RackBench" "namer" "LRackBench$Namer;") (by decide +kernel)
  have hf80 := hts (.fieldLink RX10 80 "RackBench" "lister" "LRackBench$Lister;") (by decide +kernel)
  have hl := lv_entry ([.ref h_t, .int x1, .int x2, .int x3]) (n := 4) (Nat.le_of_ble_eq_true rfl)
  rw [lg_entry_eq]
  generalize (lg_sl ([.ref h_t, .int x1, .int x2, .int x3]) ++ List.replicate (4 - (lg_sl ([.ref h_t, .int x1, .int x2, .int x3])).length) Slot.unset).toArray = ls at hl ⊢
  have hl : lv_has ls 4 [(0, .ref h_t), (1, .int x1), (2, .int x2), (3, .int x3)] := hl
  generalize hH0 : s.heap = H at hP ⊢
  have hS : va_S A s.heap H [] := by rw [← hH0]; exact va_S.rf
  clear hH0
  generalize ([] : List Loc) = locs at hS ⊢
  have J55 : ∀ (x3 : Int32) (s1 : Int32) (s2 : Int32) (t_current_n : Int32) (t_current_cells : Nat → Int32) (t_draft_n : Int32) (t_draft_cells : Nat → Int32) (t_lister_racks : Nat → Nat → Int32) (t_lister_sizes : Nat → Int32) (t_lister_trial_n : Int32) (t_lister_trial_cells : Nat → Int32) (t_namer_named : Int32) (t_namer_best_n : Int32) (t_namer_best_cells : Nat → Int32) (t_namer_firstRow : Nat → Int32) (t_namer_names : Nat → Int32) (t_namer_things : Nat → Int32) (t_namer_twins : Nat → Int32) (t_twisting_values : Nat → Int32) (H : Heap) (locs : List Loc) (ls : Array Slot), pX10_pick_55 K x3 s1 s2 t_current_n t_current_cells t_draft_n t_draft_cells t_lister_racks t_lister_sizes t_lister_trial_n t_lister_trial_cells t_namer_named t_namer_best_n t_namer_best_cells t_namer_firstRow t_namer_names t_namer_things t_namer_twins t_twisting_values → va_P G vwCl (w_X10_pick Y h_t B_t B_t_current B_t_draft B_t_lister B_t_lister_racks B_t_lister_trial B_t_namer B_t_namer_best B_t_twisting t_toldCount t_current_n t_current_cells t_draft_n t_draft_cells t_lister_racks t_lister_sizes t_lister_trial_n t_lister_trial_cells t_namer_named t_namer_best_n t_namer_best_cells t_namer_firstRow t_namer_names t_namer_things t_namer_twins t_twisting_modulus t_twisting_values) H → va_D A (w_X10_pick Y h_t B_t B_t_current B_t_draft B_t_lister B_t_lister_racks B_t_lister_trial B_t_namer B_t_namer_best B_t_twisting t_toldCount t_current_n t_current_cells t_draft_n t_draft_cells t_lister_racks t_lister_sizes t_lister_trial_n t_lister_trial_cells t_namer_named t_namer_best_n t_namer_best_cells t_namer_firstRow t_namer_names t_namer_things t_namer_twins t_twisting_modulus t_twisting_values) → va_S A s.heap H locs → lv_has ls 4 [(0, .ref h_t), (3, .int x3)] → W p l e R s m args below meth c H locs 0 0 Q (F0 m 55 ls [.int s2, .int s1, .ref (B_t 11)]) := by
    intro x3 s1 s2 t_current_n t_current_cells t_draft_n t_draft_cells t_lister_racks t_lister_sizes t_lister_trial_n t_lister_trial_cells t_namer_named t_namer_best_n t_namer_best_cells t_namer_firstRow t_namer_names t_namer_things t_namer_twins t_twisting_values H locs ls h hP hD hS hl
    refine lv_iload_n hx hb dX10_pick_55 rfl (lv_at hl 1 rfl) ?_
    refine lv_aload_n hx hb dX10_pick_56 rfl (lv_at hl 0 rfl) ?_
    refine va_get (D := G) (ci := 9) (v := .ref (B_t 1)) (C := RX10) (T := TX10) (N := 15) hx hb hts inX10 hown hK hP 0 rfl rfl 1 (by decide) hf18 (fun _ h9 => h9) rfl dX10_pick_57 ?_
    refine mc_vV ⟨hx, hb, hml, hown, hts⟩ hK hE hA hP hD hS (c_X2_unpack l G Y tF H.size (B_t 11) (B_t 1) B_t_lister B_t_lister_racks B_t_draft t_lister_racks t_lister_sizes t_draft_n t_draft_cells s1 s2 x3 h) (cwV 4 hts gX10_pick_X2_unpack rfl rfl rfl (by decide +kernel) ⟨Nat.le_trans (by decide) hRf, Nat.le_trans (by decide) hRl⟩) (fun u => (w_X10_pick Y h_t B_t B_t_current B_t_draft B_t_lister B_t_lister_racks B_t_lister_trial B_t_namer B_t_namer_best B_t_twisting t_toldCount t_current_n t_current_cells u.1 u.2 t_lister_racks t_lister_sizes t_lister_trial_n t_lister_trial_cells t_namer_named t_namer_best_n t_namer_best_cells t_namer_firstRow t_namer_names t_namer_things t_namer_twins t_twisting_modulus t_twisting_values)) [5, 6, 7, 8, 9, 10, 11, 12, 3, 4] [0, 1, 2, 13, 14, 15, 16, 17, 18, 19, 20, 21, 22, 23] [0, 1, 2, 22, 23, 14, 15, 16, 17, 18, 19, 20, 21, 3, 4, 5, 6, 7, 8, 9, 10, 11, 12, 13] rfl rfl rfl rfl (by decide) (fun _ => rfl) rfl 5 2 rfl rfl rfl rfl hl.1 rfl (Nat.le_of_ble_eq_true rfl) dX10_pick_60 (fun u H locs h hP hD hS => ?_)
    obtain ⟨t_draft_n_60, t_draft_cells_60⟩ := u
    try dsimp only at h
    have hP : va_P G vwCl (w_X10_pick Y h_t B_t B_t_current B_t_draft B_t_lister B_t_lister_racks B_t_lister_trial B_t_namer B_t_namer_best B_t_twisting t_toldCount t_current_n t_current_cells t_draft_n_60 t_draft_cells_60 t_lister_racks t_lister_sizes t_lister_trial_n t_lister_trial_cells t_namer_named t_namer_best_n t_namer_best_cells t_namer_firstRow t_namer_names t_namer_things t_namer_twins t_twisting_modulus t_twisting_values) H := hP
    have hD : va_D A (w_X10_pick Y h_t B_t B_t_current B_t_draft B_t_lister B_t_lister_racks B_t_lister_trial B_t_namer B_t_namer_best B_t_twisting t_toldCount t_current_n t_current_cells t_draft_n_60 t_draft_cells_60 t_lister_racks t_lister_sizes t_lister_trial_n t_lister_trial_cells t_namer_named t_namer_best_n t_namer_best_cells t_namer_firstRow t_namer_names t_namer_things t_namer_twins t_twisting_modulus t_twisting_values) := hD
    refine lv_aload_n hx hb dX10_pick_63 rfl (lv_at hl 0 rfl) ?_
    refine mc_iV ⟨hx, hb, hml, hown, hts⟩ hK hE hA hP hD hS (c_X10_adoptDraft l G Y tF H.size h_t B_t B_t_current B_t_draft B_t_twisting t_toldCount t_current_n t_current_cells t_draft_n_60 t_draft_cells_60 t_twisting_modulus t_twisting_values h) (cwV 0 hts gX10_pick_X10_adoptDraft rfl rfl rfl (by decide +kernel) ⟨Nat.le_trans (by decide) hRf, Nat.le_trans (by decide) hRl⟩) (fun u => (w_X10_pick Y h_t B_t B_t_current B_t_draft B_t_lister B_t_lister_racks B_t_lister_trial B_t_namer B_t_namer_best B_t_twisting t_toldCount u.1 u.2.1 t_draft_n_60 t_draft_cells_60 t_lister_racks t_lister_sizes t_lister_trial_n t_lister_trial_cells t_namer_named t_namer_best_n t_namer_best_cells t_namer_firstRow t_namer_names t_namer_things t_namer_twins t_twisting_modulus u.2.2)) [0, 1, 2, 3, 4, 22, 23] [5, 6, 7, 8, 9, 10, 11, 12, 13, 14, 15, 16, 17, 18, 19, 20, 21] [17, 18, 19, 20, 21, 0, 1, 2, 3, 4, 5, 6, 7, 8, 9, 10, 11, 12, 13, 14, 15, 16, 22, 23] rfl rfl rfl rfl (by decide) (fun _ => rfl) rfl 0 9 rfl rfl rfl rfl hl.1 rfl (Nat.le_of_ble_eq_true rfl) dX10_pick_64 (fun r64 u H locs h hP hD hS => ?_)
    obtain ⟨t_current_n_64, t_current_cells_64, t_twisting_values_64⟩ := u
    try dsimp only at h
    have hP : va_P G vwCl (w_X10_pick Y h_t B_t B_t_current B_t_draft B_t_lister B_t_lister_racks B_t_lister_trial B_t_namer B_t_namer_best B_t_twisting t_toldCount t_current_n_64 t_current_cells_64 t_draft_n_60 t_draft_cells_60 t_lister_racks t_lister_sizes t_lister_trial_n t_lister_trial_cells t_namer_named t_namer_best_n t_namer_best_cells t_namer_firstRow t_namer_names t_namer_things t_namer_twins t_twisting_modulus t_twisting_values_64) H := hP
    have hD : va_D A (w_X10_pick Y h_t B_t B_t_current B_t_draft B_t_lister B_t_lister_racks B_t_lister_trial B_t_namer B_t_namer_best B_t_twisting t_toldCount t_current_n_64 t_current_cells_64 t_draft_n_60 t_draft_cells_60 t_lister_racks t_lister_sizes t_lister_trial_n t_lister_trial_cells t_namer_named t_namer_best_n t_namer_best_cells t_namer_firstRow t_namer_names t_namer_things t_namer_twins t_twisting_modulus t_twisting_values_64) := hD
    refine lv_pop hx hb dX10_pick_67 rfl ?_
    refine lv_iconst (v := 1) hx hb dX10_pick_68 (by decide) ?_
    obtain ⟨hz, h⟩ := h
    exact hret (1 : Int32) t_current_n_64 t_current_cells_64 t_draft_n_60 t_draft_cells_60 t_lister_racks t_lister_sizes t_lister_trial_n t_lister_trial_cells t_namer_named t_namer_best_n t_namer_best_cells t_namer_firstRow t_namer_names t_namer_things t_namer_twins t_twisting_values_64 H locs ls _ hP hD hS hz h dX10_pick_69
  have J28 : ∀ (x1 : Int32) (x2 : Int32) (x3 : Int32) (s0 : Int32) (s2 : Int32) (s3 : Int32) (t_current_n : Int32) (t_current_cells : Nat → Int32) (t_draft_n : Int32) (t_draft_cells : Nat → Int32) (t_lister_racks : Nat → Nat → Int32) (t_lister_sizes : Nat → Int32) (t_lister_trial_n : Int32) (t_lister_trial_cells : Nat → Int32) (t_namer_named : Int32) (t_namer_best_n : Int32) (t_namer_best_cells : Nat → Int32) (t_namer_firstRow : Nat → Int32) (t_namer_names : Nat → Int32) (t_namer_things : Nat → Int32) (t_namer_twins : Nat → Int32) (t_twisting_values : Nat → Int32) (H : Heap) (locs : List Loc) (ls : Array Slot), pX10_pick_28 K x1 x2 x3 s0 s2 s3 t_current_n t_current_cells t_draft_n t_draft_cells t_lister_racks t_lister_sizes t_lister_trial_n t_lister_trial_cells t_namer_named t_namer_best_n t_namer_best_cells t_namer_firstRow t_namer_names t_namer_things t_namer_twins t_twisting_values → va_P G vwCl (w_X10_pick Y h_t B_t B_t_current B_t_draft B_t_lister B_t_lister_racks B_t_lister_trial B_t_namer B_t_namer_best B_t_twisting t_toldCount t_current_n t_current_cells t_draft_n t_draft_cells t_lister_racks t_lister_sizes t_lister_trial_n t_lister_trial_cells t_namer_named t_namer_best_n t_namer_best_cells t_namer_firstRow t_namer_names t_namer_things t_namer_twins t_twisting_modulus t_twisting_values) H → va_D A (w_X10_pick Y h_t B_t B_t_current B_t_draft B_t_lister B_t_lister_racks B_t_lister_trial B_t_namer B_t_namer_best B_t_twisting t_toldCount t_current_n t_current_cells t_draft_n t_draft_cells t_lister_racks t_lister_sizes t_lister_trial_n t_lister_trial_cells t_namer_named t_namer_best_n t_namer_best_cells t_namer_firstRow t_namer_names t_namer_things t_namer_twins t_twisting_modulus t_twisting_values) → va_S A s.heap H locs → lv_has ls 4 [(0, .ref h_t), (1, .int x1), (2, .int x2), (3, .int x3)] → W p l e R s m args below meth c H locs 0 0 Q (F0 m 28 ls [.int s3, .int s2, .ref (B_t 11), .int s0]) := by
    intro x1 x2 x3 s0 s2 s3 t_current_n t_current_cells t_draft_n t_draft_cells t_lister_racks t_lister_sizes t_lister_trial_n t_lister_trial_cells t_namer_named t_namer_best_n t_namer_best_cells t_namer_firstRow t_namer_names t_namer_things t_namer_twins t_twisting_values H locs ls h hP hD hS hl
    refine lv_aload_n hx hb dX10_pick_28 rfl (lv_at hl 0 rfl) ?_
    refine va_get (D := G) (ci := 9) (v := .ref (B_t 8)) (C := RX10) (T := TX10) (N := 15) hx hb hts inX10 hown hK hP 0 rfl rfl 8 (by decide) hf59 (fun _ h9 => h9) rfl dX10_pick_29 ?_
    refine mc_iV ⟨hx, hb, hml, hown, hts⟩ hK hE hA hP hD hS (c_X2_sizeOf l G Y tF H.size (B_t 11) (B_t 8) B_t_lister B_t_lister_racks B_t_lister_trial B_t_namer B_t_namer_best t_lister_racks t_lister_sizes t_lister_trial_n t_lister_trial_cells t_namer_named t_namer_best_n t_namer_best_cells t_namer_firstRow t_namer_names t_namer_things t_namer_twins s2 s3 h) (cwV 3 hts gX10_pick_X2_sizeOf rfl rfl rfl (by decide +kernel) ⟨Nat.le_trans (by decide) hRf, Nat.le_trans (by decide) hRl⟩) (fun u => (w_X10_pick Y h_t B_t B_t_current B_t_draft B_t_lister B_t_lister_racks B_t_lister_trial B_t_namer B_t_namer_best B_t_twisting t_toldCount t_current_n t_current_cells t_draft_n t_draft_cells u.1 u.2.1 u.2.2.1 u.2.2.2.1 u.2.2.2.2.1 u.2.2.2.2.2.1 u.2.2.2.2.2.2.1 u.2.2.2.2.2.2.2.1 u.2.2.2.2.2.2.2.2.1 u.2.2.2.2.2.2.2.2.2.1 u.2.2.2.2.2.2.2.2.2.2 t_twisting_modulus t_twisting_values)) [5, 6, 7, 8, 9, 10, 11, 12, 13, 14, 15, 16, 17, 18, 19, 20, 21] [0, 1, 2, 3, 4, 22, 23] [0, 1, 2, 3, 4, 7, 8, 9, 10, 11, 12, 13, 14, 15, 16, 17, 18, 19, 20, 21, 22, 23, 5, 6] rfl rfl rfl rfl (by decide) (fun _ => rfl) rfl 5 2 rfl rfl rfl rfl hl.1 rfl (Nat.le_of_ble_eq_true rfl) dX10_pick_32 (fun r32 u H locs h hP hD hS => ?_)
    obtain ⟨t_lister_racks_32, t_lister_sizes_32, t_lister_trial_n_32, t_lister_trial_cells_32, t_namer_named_32, t_namer_best_n_32, t_namer_best_cells_32, t_namer_firstRow_32, t_namer_names_32, t_namer_things_32, t_namer_twins_32⟩ := u
    try dsimp only at h
    have hP : va_P G vwCl (w_X10_pick Y h_t B_t B_t_current B_t_draft B_t_lister B_t_lister_racks B_t_lister_trial B_t_namer B_t_namer_best B_t_twisting t_toldCount t_current_n t_current_cells t_draft_n t_draft_cells t_lister_racks_32 t_lister_sizes_32 t_lister_trial_n_32 t_lister_trial_cells_32 t_namer_named_32 t_namer_best_n_32 t_namer_best_cells_32 t_namer_firstRow_32 t_namer_names_32 t_namer_things_32 t_namer_twins_32 t_twisting_modulus t_twisting_values) H := hP
    have hD : va_D A (w_X10_pick Y h_t B_t B_t_current B_t_draft B_t_lister B_t_lister_racks B_t_lister_trial B_t_namer B_t_namer_best B_t_twisting t_toldCount t_current_n t_current_cells t_draft_n t_draft_cells t_lister_racks_32 t_lister_sizes_32 t_lister_trial_n_32 t_lister_trial_cells_32 t_namer_named_32 t_namer_best_n_32 t_namer_best_cells_32 t_namer_firstRow_32 t_namer_names_32 t_namer_things_32 t_namer_twins_32 t_twisting_modulus t_twisting_values) := hD
    obtain ⟨ht, hf⟩ := h
    refine lv_icmp_lt (tgt := 40) hx hb dX10_pick_35 (by decide) (fun c9 => ?_) (fun c9 => ?_)
    · have h := ht c9
      refine lv_aload_n hx hb dX10_pick_40 rfl (lv_at hl 0 rfl) ?_
      refine va_get (D := G) (ci := 9) (v := .ref (B_t 11)) (C := RX10) (T := TX10) (N := 15) hx hb hts inX10 hown hK hP 0 rfl rfl 11 (by decide) hf80 (fun _ h9 => h9) rfl dX10_pick_41 ?_
      refine lv_iload_n hx hb dX10_pick_44 rfl (lv_at hl 1 rfl) ?_
      refine lv_iload_n hx hb dX10_pick_45 rfl (lv_at hl 2 rfl) ?_
      refine lv_iconst (v := 1) hx hb dX10_pick_46 (by decide) ?_
      obtain ⟨ht, hf⟩ := h
      refine lv_icmp_ne (tgt := 54) hx hb dX10_pick_47 (by decide) (fun c9 => ?_) (fun c9 => ?_)
      · have h := ht c9
        refine lv_iconst (v := 0) hx hb dX10_pick_54 (by decide) ?_
        exact J55 x3 x1 (0 : Int32) t_current_n t_current_cells t_draft_n t_draft_cells t_lister_racks_32 t_lister_sizes_32 t_lister_trial_n_32 t_lister_trial_cells_32 t_namer_named_32 t_namer_best_n_32 t_namer_best_cells_32 t_namer_firstRow_32 t_namer_names_32 t_namer_things_32 t_namer_twins_32 t_twisting_values H locs ls h hP hD hS (lv_sub hl [0, 3] rfl)
      · have h := hf c9
        refine lv_iconst (v := 1) hx hb dX10_pick_50 (by decide) ?_
        refine lv_goto (tgt := 55) hx hb dX10_pick_51 (by decide) ?_
        exact J55 x3 x1 (1 : Int32) t_current_n t_current_cells t_draft_n t_draft_cells t_lister_racks_32 t_lister_sizes_32 t_lister_trial_n_32 t_lister_trial_cells_32 t_namer_named_32 t_namer_best_n_32 t_namer_best_cells_32 t_namer_firstRow_32 t_namer_names_32 t_namer_things_32 t_namer_twins_32 t_twisting_values H locs ls h hP hD hS (lv_sub hl [0, 3] rfl)
    · have h := hf c9
      refine lv_iconst (v := 0) hx hb dX10_pick_38 (by decide) ?_
      obtain ⟨hz, h⟩ := h
      exact hret (0 : Int32) t_current_n t_current_cells t_draft_n t_draft_cells t_lister_racks_32 t_lister_sizes_32 t_lister_trial_n_32 t_lister_trial_cells_32 t_namer_named_32 t_namer_best_n_32 t_namer_best_cells_32 t_namer_firstRow_32 t_namer_names_32 t_namer_things_32 t_namer_twins_32 t_twisting_values H locs ls _ hP hD hS hz h dX10_pick_39
  refine lv_iload_n hx hb dX10_pick_0 rfl (lv_at hl 1 rfl) ?_
  refine lv_iload_n hx hb dX10_pick_1 rfl (lv_at hl 2 rfl) ?_
  refine mc_iS ⟨hx, hb, hml, hown, hts⟩ hK hE hA hP hD hS (c_X10_isList l G Y tF H.size x1 x2 h) (va_cwS 2 hts gX10_pick_X10_isList rfl rfl rfl (by decide +kernel) ⟨Nat.le_trans (by decide) hRf, Nat.le_trans (by decide) hRl⟩) (fun u => (w_X10_pick Y h_t B_t B_t_current B_t_draft B_t_lister B_t_lister_racks B_t_lister_trial B_t_namer B_t_namer_best B_t_twisting t_toldCount t_current_n t_current_cells t_draft_n t_draft_cells t_lister_racks t_lister_sizes t_lister_trial_n t_lister_trial_cells t_namer_named t_namer_best_n t_namer_best_cells t_namer_firstRow t_namer_names t_namer_things t_namer_twins t_twisting_modulus t_twisting_values)) [] [0, 1, 2, 3, 4, 5, 6, 7, 8, 9, 10, 11, 12, 13, 14, 15, 16, 17, 18, 19, 20, 21, 22, 23] [0, 1, 2, 3, 4, 5, 6, 7, 8, 9, 10, 11, 12, 13, 14, 15, 16, 17, 18, 19, 20, 21, 22, 23] rfl rfl rfl rfl (by decide) (fun _ => rfl) rfl rfl hl.1 rfl (Nat.le_of_ble_eq_true rfl) dX10_pick_2 (fun r2 u H locs h hP hD hS => ?_)
  try dsimp only at h
  have hP : va_P G vwCl (w_X10_pick Y h_t B_t B_t_current B_t_draft B_t_lister B_t_lister_racks B_t_lister_trial B_t_namer B_t_namer_best B_t_twisting t_toldCount t_current_n t_current_cells t_draft_n t_draft_cells t_lister_racks t_lister_sizes t_lister_trial_n t_lister_trial_cells t_namer_named t_namer_best_n t_namer_best_cells t_namer_firstRow t_namer_names t_namer_things t_namer_twins t_twisting_modulus t_twisting_values) H := hP
  have hD : va_D A (w_X10_pick Y h_t B_t B_t_current B_t_draft B_t_lister B_t_lister_racks B_t_lister_trial B_t_namer B_t_namer_best B_t_twisting t_toldCount t_current_n t_current_cells t_draft_n t_draft_cells t_lister_racks t_lister_sizes t_lister_trial_n t_lister_trial_cells t_namer_named t_namer_best_n t_namer_best_cells t_namer_firstRow t_namer_names t_namer_things t_namer_twins t_twisting_modulus t_twisting_values) := hD
  obtain ⟨ht, hf⟩ := h
  refine lv_if_eq (tgt := 38) hx hb dX10_pick_5 (by decide) (fun c9 => ?_) (fun c9 => ?_)
  · have h := ht c9
    refine lv_iconst (v := 0) hx hb dX10_pick_38 (by decide) ?_
    obtain ⟨hz, h⟩ := h
    exact hret (0 : Int32) t_current_n t_current_cells t_draft_n t_draft_cells t_lister_racks t_lister_sizes t_lister_trial_n t_lister_trial_cells t_namer_named t_namer_best_n t_namer_best_cells t_namer_firstRow t_namer_names t_namer_things t_namer_twins t_twisting_values H locs ls _ hP hD hS hz h dX10_pick_39
  · have h := hf c9
    refine lv_iload_n hx hb dX10_pick_8 rfl (lv_at hl 3 rfl) ?_
    obtain ⟨ht, hf⟩ := h
    refine lv_if_lt (tgt := 38) hx hb dX10_pick_9 (by decide) (fun c9 => ?_) (fun c9 => ?_)
    · have h := ht c9
      refine lv_iconst (v := 0) hx hb dX10_pick_38 (by decide) ?_
      obtain ⟨hz, h⟩ := h
      exact hret (0 : Int32) t_current_n t_current_cells t_draft_n t_draft_cells t_lister_racks t_lister_sizes t_lister_trial_n t_lister_trial_cells t_namer_named t_namer_best_n t_namer_best_cells t_namer_firstRow t_namer_names t_namer_things t_namer_twins t_twisting_values H locs ls _ hP hD hS hz h dX10_pick_39
    · have h := hf c9
      refine lv_iload_n hx hb dX10_pick_12 rfl (lv_at hl 3 rfl) ?_
      refine lv_aload_n hx hb dX10_pick_13 rfl (lv_at hl 0 rfl) ?_
      refine va_get (D := G) (ci := 9) (v := .ref (B_t 11)) (C := RX10) (T := TX10) (N := 15) hx hb hts inX10 hown hK hP 0 rfl rfl 11 (by decide) hf80 (fun _ h9 => h9) rfl dX10_pick_14 ?_
      refine lv_iload_n hx hb dX10_pick_17 rfl (lv_at hl 1 rfl) ?_
      refine lv_iload_n hx hb dX10_pick_18 rfl (lv_at hl 2 rfl) ?_
      refine lv_iconst (v := 1) hx hb dX10_pick_19 (by decide) ?_
      obtain ⟨ht, hf⟩ := h
      refine lv_icmp_ne (tgt := 27) hx hb dX10_pick_20 (by decide) (fun c9 => ?_) (fun c9 => ?_)
      · have h := ht c9
        refine lv_iconst (v := 0) hx hb dX10_pick_27 (by decide) ?_
        exact J28 x1 x2 x3 x3 x1 (0 : Int32) t_current_n t_current_cells t_draft_n t_draft_cells t_lister_racks t_lister_sizes t_lister_trial_n t_lister_trial_cells t_namer_named t_namer_best_n t_namer_best_cells t_namer_firstRow t_namer_names t_namer_things t_namer_twins t_twisting_values H locs ls h hP hD hS (lv_sub hl [0, 1, 2, 3] rfl)
      · have h := hf c9
        refine lv_iconst (v := 1) hx hb dX10_pick_23 (by decide) ?_
        refine lv_goto (tgt := 28) hx hb dX10_pick_24 (by decide) ?_
        exact J28 x1 x2 x3 x3 x1 (1 : Int32) t_current_n t_current_cells t_draft_n t_draft_cells t_lister_racks t_lister_sizes t_lister_trial_n t_lister_trial_cells t_namer_named t_namer_best_n t_namer_best_cells t_namer_firstRow t_namer_names t_namer_things t_namer_twins t_twisting_values H locs ls h hP hD hS (lv_sub hl [0, 1, 2, 3] rfl)

set_option maxHeartbeats 20000000 in
set_option maxRecDepth 100000 in
theorem c_X10_pick (l : Launch) (G : va_G) (Y : Nat → ClassId) (tF sz : Nat) (h_t : Nat) (B_t : Nat → Nat) (B_t_current : Nat → Nat) (B_t_draft : Nat → Nat) (B_t_lister : Nat → Nat) (B_t_lister_racks : Nat → Nat) (B_t_lister_trial : Nat → Nat) (B_t_namer : Nat → Nat) (B_t_namer_best : Nat → Nat) (B_t_twisting : Nat → Nat) (t_toldCount : Int32) (t_current_n : Int32) (t_current_cells : Nat → Int32) (t_draft_n : Int32) (t_draft_cells : Nat → Int32) (t_lister_racks : Nat → Nat → Int32) (t_lister_sizes : Nat → Int32) (t_lister_trial_n : Int32) (t_lister_trial_cells : Nat → Int32) (t_namer_named : Int32) (t_namer_best_n : Int32) (t_namer_best_cells : Nat → Int32) (t_namer_firstRow : Nat → Int32) (t_namer_names : Nat → Int32) (t_namer_things : Nat → Int32) (t_namer_twins : Nat → Int32) (t_twisting_modulus : Int32) (t_twisting_values : Nat → Int32) (x1 : Int32) (x2 : Int32) (x3 : Int32) {K : Int32 → Int32 → (Nat → Int32) → Int32 → (Nat → Int32) → (Nat → Nat → Int32) → (Nat → Int32) → Int32 → (Nat → Int32) → Int32 → Int32 → (Nat → Int32) → (Nat → Int32) → (Nat → Int32) → (Nat → Int32) → (Nat → Int32) → (Nat → Int32) → Prop} (h : pX10_pick t_current_n t_current_cells t_draft_n t_draft_cells t_lister_racks t_lister_sizes t_lister_trial_n t_lister_trial_cells t_namer_named t_namer_best_n t_namer_best_cells t_namer_firstRow t_namer_names t_namer_things t_namer_twins t_twisting_values x1 x2 x3 K) : Met l yX10_pick wsX10_pick ({ frames := 32, cells := 0, slots := 0, locals := 746 }) (PcM G Y tF sz (w_X10_pick Y h_t B_t B_t_current B_t_draft B_t_lister B_t_lister_racks B_t_lister_trial B_t_namer B_t_namer_best B_t_twisting t_toldCount t_current_n t_current_cells t_draft_n t_draft_cells t_lister_racks t_lister_sizes t_lister_trial_n t_lister_trial_cells t_namer_named t_namer_best_n t_namer_best_cells t_namer_firstRow t_namer_names t_namer_things t_namer_twins t_twisting_modulus t_twisting_values) [.ref h_t, .int x1, .int x2, .int x3]) (va_Qi (fun (r : Int32) (u : Int32 × (Nat → Int32) × Int32 × (Nat → Int32) × (Nat → Nat → Int32) × (Nat → Int32) × Int32 × (Nat → Int32) × Int32 × Int32 × (Nat → Int32) × (Nat → Int32) × (Nat → Int32) × (Nat → Int32) × (Nat → Int32) × (Nat → Int32)) => K r u.1 u.2.1 u.2.2.1 u.2.2.2.1 u.2.2.2.2.1 u.2.2.2.2.2.1 u.2.2.2.2.2.2.1 u.2.2.2.2.2.2.2.1 u.2.2.2.2.2.2.2.2.1 u.2.2.2.2.2.2.2.2.2.1 u.2.2.2.2.2.2.2.2.2.2.1 u.2.2.2.2.2.2.2.2.2.2.2.1 u.2.2.2.2.2.2.2.2.2.2.2.2.1 u.2.2.2.2.2.2.2.2.2.2.2.2.2.1 u.2.2.2.2.2.2.2.2.2.2.2.2.2.2.1 u.2.2.2.2.2.2.2.2.2.2.2.2.2.2.2) (fun u t => BM G Y (va_A (w_X10_pick Y h_t B_t B_t_current B_t_draft B_t_lister B_t_lister_racks B_t_lister_trial B_t_namer B_t_namer_best B_t_twisting t_toldCount t_current_n t_current_cells t_draft_n t_draft_cells t_lister_racks t_lister_sizes t_lister_trial_n t_lister_trial_cells t_namer_named t_namer_best_n t_namer_best_cells t_namer_firstRow t_namer_names t_namer_things t_namer_twins t_twisting_modulus t_twisting_values) sz) (w_X10_pick Y h_t B_t B_t_current B_t_draft B_t_lister B_t_lister_racks B_t_lister_trial B_t_namer B_t_namer_best B_t_twisting t_toldCount u.1 u.2.1 u.2.2.1 u.2.2.2.1 u.2.2.2.2.1 u.2.2.2.2.2.1 u.2.2.2.2.2.2.1 u.2.2.2.2.2.2.2.1 u.2.2.2.2.2.2.2.2.1 u.2.2.2.2.2.2.2.2.2.1 u.2.2.2.2.2.2.2.2.2.2.1 u.2.2.2.2.2.2.2.2.2.2.2.1 u.2.2.2.2.2.2.2.2.2.2.2.2.1 u.2.2.2.2.2.2.2.2.2.2.2.2.2.1 u.2.2.2.2.2.2.2.2.2.2.2.2.2.2.1 t_twisting_modulus u.2.2.2.2.2.2.2.2.2.2.2.2.2.2.2) t) (va_A (w_X10_pick Y h_t B_t B_t_current B_t_draft B_t_lister B_t_lister_racks B_t_lister_trial B_t_namer B_t_namer_best B_t_twisting t_toldCount t_current_n t_current_cells t_draft_n t_draft_cells t_lister_racks t_lister_sizes t_lister_trial_n t_lister_trial_cells t_namer_named t_namer_best_n t_namer_best_cells t_namer_firstRow t_namer_names t_namer_things t_namer_twins t_twisting_modulus t_twisting_values) sz)) 0 0 (va_A (w_X10_pick Y h_t B_t B_t_current B_t_draft B_t_lister B_t_lister_racks B_t_lister_trial B_t_namer B_t_namer_best B_t_twisting t_toldCount t_current_n t_current_cells t_draft_n t_draft_cells t_lister_racks t_lister_sizes t_lister_trial_n t_lister_trial_cells t_namer_named t_namer_best_n t_namer_best_cells t_namer_firstRow t_namer_names t_namer_things t_namer_twins t_twisting_modulus t_twisting_values) sz) := by
  refine Met.ofW (cc := cX10_pick) (maxL := 4) (ret := (some .boolean)) (by decide +kernel) rfl ?_
  intro p e s m args below meth c s₁ B hml hv
  obtain ⟨rfl, hsz, hP, hK, hD0, hE⟩ := hv
  have hts := atoms_spec (ws := wsX10_pick) B.pre
  have hown : s.vm.findClass RX10 = some m.cls := findClass_of_methodNamed B.named
  have hlocks := B.notSynchronized
  subst hsz
  have hD := hD0.self (sz := s.heap.size)
  exact wk_X10_pick h_t B_t B_t_current B_t_draft B_t_lister B_t_lister_racks B_t_lister_trial B_t_namer B_t_namer_best B_t_twisting t_toldCount t_current_n t_current_cells t_draft_n t_draft_cells t_lister_racks t_lister_sizes t_lister_trial_n t_lister_trial_cells t_namer_named t_namer_best_n t_namer_best_cells t_namer_firstRow t_namer_names t_namer_things t_namer_twins t_twisting_modulus t_twisting_values x1 x2 x3 B.exec B.bytes hml hown hts hK hE (fun q h => Or.inr h) (Nat.le_refl _) (Nat.le_refl _) (fun r t_current_n t_current_cells t_draft_n t_draft_cells t_lister_racks t_lister_sizes t_lister_trial_n t_lister_trial_cells t_namer_named t_namer_best_n t_namer_best_cells t_namer_firstRow t_namer_names t_namer_things t_namer_twins t_twisting_values H locs ls pc hP hD hS hz hk hd => W.zret (v := r) B.exec B.bytes B.returns hz.n (fun t ht hW => ⟨⟨r, (t_current_n, t_current_cells, t_draft_n, t_draft_cells, t_lister_racks, t_lister_sizes, t_lister_trial_n, t_lister_trial_cells, t_namer_named, t_namer_best_n, t_namer_best_cells, t_namer_firstRow, t_namer_names, t_namer_things, t_namer_twins, t_twisting_values), rfl, hk, by rw [ht]; exact hP, va_K.moved hW.alike hK, hD⟩, hS.F ht⟩) hS.2.2 hd) hP hD h
