abbrev w_X10_isSize (Y : Nat → ClassId) : va_W := []

set_option maxHeartbeats 4000000 in
set_option maxRecDepth 100000 in
theorem wk_X10_isSize {p : Program} {l : Launch} {e : Env} {R : Room} {s : State} {m : MethodId} {args : Array Value} {below : List Frame} {meth : Method} {c : Code} {Q : State → Prop} {G : va_G} {Y : Nat → ClassId} {tF : Nat} {A : Nat → Prop} (x0 : Int32) {K : Int32 → Prop} (hx : p.tables.exec = Jvm.exec) (hb : c.code = cX10_isSize) (hml : c.maxLocals = 1) (hown : s.vm.findClass RX10 = some m.cls) (hts : ∀ w ∈ wsX10_isSize, w.before args s = true) (hK : va_K G vwCl (tyL Y) s) (hE : Ev A tF s) (hA : ∀ q, s.heap.size ≤ q → A q) (hRf : 0 ≤ R.frames) (hRl : 0 ≤ R.locals) (hret : ∀ (r : Int32)  (H : Heap) (locs : List Loc) (ls : Array Slot) (pc : Nat), va_P G vwCl (w_X10_isSize Y) H → va_D A (w_X10_isSize Y) → va_S A s.heap H locs → zb r → K r → decode cX10_isSize pc = .ok (.ireturn, 1) → W p l e R s m args below meth c H locs 0 0 Q (F0 m pc ls [.int r])) (hP : va_P G vwCl (w_X10_isSize Y) s.heap) (hD : va_D A (w_X10_isSize Y)) (h : pX10_isSize x0 K) : W p l e R s m args below meth c s.heap [] 0 0 Q (entryFrame m ([.int x0] : List Value).toArray 1) := by
  have hl := lv_entry ([.int x0]) (n := 1) (Nat.le_of_ble_eq_true rfl)
  rw [lg_entry_eq]
  generalize (lg_sl ([.int x0]) ++ List.replicate (1 - (lg_sl ([.int x0])).length) Slot.unset).toArray = ls at hl ⊢
  have hl : lv_has ls 1 [(0, .int x0)] := hl
  generalize hH0 : s.heap = H at hP ⊢
  have hS : va_S A s.heap H [] := by rw [← hH0]; exact va_S.rf
  clear hH0
  generalize ([] : List Loc) = locs at hS ⊢
  have J15 : ∀  (H : Heap) (locs : List Loc) (ls : Array Slot), pX10_isSize_15 K → va_P G vwCl (w_X10_isSize Y) H → va_D A (w_X10_isSize Y) → va_S A s.heap H locs → lv_has ls 1 [] → W p l e R s m args below meth c H locs 0 0 Q (F0 m 15 ls []) := by
    intro  H locs ls h hP hD hS hl
    refine lv_iconst (v := 0) hx hb dX10_isSize_15 (by decide) ?_
    obtain ⟨hz, h⟩ := h
    exact hret (0 : Int32)  H locs ls _ hP hD hS hz h dX10_isSize_16
  refine lv_iload_n hx hb dX10_isSize_0 rfl (lv_at hl 0 rfl) ?_
  refine lv_iconst (v := 1) hx hb dX10_isSize_1 (by decide) ?_
  obtain ⟨ht, hf⟩ := h
  refine lv_icmp_lt (tgt := 15) hx hb dX10_isSize_2 (by decide) (fun c9 => ?_) (fun c9 => ?_)
  · have h := ht c9
    exact J15  H locs ls h hP hD hS (lv_sub hl [] rfl)
  · have h := hf c9
    refine lv_iload_n hx hb dX10_isSize_5 rfl (lv_at hl 0 rfl) ?_
    refine lv_bipush (v := 8) hx hb dX10_isSize_6 (by decide) ?_
    obtain ⟨ht, hf⟩ := h
    refine lv_icmp_gt (tgt := 15) hx hb dX10_isSize_8 (by decide) (fun c9 => ?_) (fun c9 => ?_)
    · have h := ht c9
      exact J15  H locs ls h hP hD hS (lv_sub hl [] rfl)
    · have h := hf c9
      refine lv_iconst (v := 1) hx hb dX10_isSize_11 (by decide) ?_
      refine lv_goto (tgt := 16) hx hb dX10_isSize_12 (by decide) ?_
      obtain ⟨hz, h⟩ := h
      exact hret (1 : Int32)  H locs ls _ hP hD hS hz h dX10_isSize_16

set_option maxHeartbeats 4000000 in
set_option maxRecDepth 100000 in
theorem c_X10_isSize (l : Launch) (G : va_G) (Y : Nat → ClassId) (tF sz : Nat) (x0 : Int32) {K : Int32 → Prop} (h : pX10_isSize x0 K) : Met l yX10_isSize wsX10_isSize ({ frames := 0, cells := 0, slots := 0, locals := 0 }) (PcM G Y tF sz (w_X10_isSize Y) [.int x0]) (va_Qi (fun (r : Int32) (u : Unit) => K r ) (fun u t => BM G Y (va_A (w_X10_isSize Y) sz) (w_X10_isSize Y) t) (va_A (w_X10_isSize Y) sz)) 0 0 (va_A (w_X10_isSize Y) sz) := by
  refine Met.ofW (cc := cX10_isSize) (maxL := 1) (ret := (some .boolean)) (by decide +kernel) rfl ?_
  intro p e s m args below meth c s₁ B hml hv
  obtain ⟨rfl, hsz, hP, hK, hD0, hE⟩ := hv
  have hts := atoms_spec (ws := wsX10_isSize) B.pre
  have hown : s.vm.findClass RX10 = some m.cls := findClass_of_methodNamed B.named
  have hlocks := B.notSynchronized
  subst hsz
  have hD := hD0.self (sz := s.heap.size)
  exact wk_X10_isSize x0 B.exec B.bytes hml hown hts hK hE (fun q h => Or.inr h) (Nat.le_refl _) (Nat.le_refl _) (fun r  H locs ls pc hP hD hS hz hk hd => W.zret (v := r) B.exec B.bytes B.returns hz.n (fun t ht hW => ⟨⟨r, (), rfl, hk, by rw [ht]; exact hP, va_K.moved hW.alike hK, hD⟩, hS.F ht⟩) hS.2.2 hd) hP hD h

abbrev w_X10_adoptDraft (Y : Nat → ClassId) (h_t : Nat) (B_t : Nat → Nat) (B_t_current : Nat → Nat) (B_t_draft : Nat → Nat) (B_t_twisting : Nat → Nat) (t_toldCount : Int32) (t_current_n : Int32) (t_current_cells : Nat → Int32) (t_draft_n : Int32) (t_draft_cells : Nat → Int32) (t_twisting_modulus : Int32) (t_twisting_values : Nat → Int32) : va_W := [(h_t, .inr (9, [.ref (B_t 0), .ref (B_t 1), .ref (B_t 2), .ref (B_t 3), .ref (B_t 4), .ref (B_t 5), .ref (B_t 6), .ref (B_t 7), .ref (B_t 8), .ref (B_t 9), .ref (B_t 10), .ref (B_t 11), .ref (B_t 12), .ref (B_t 13), .int t_toldCount])), ((B_t 0), .inr (6, [.ref (B_t_current 0), .int t_current_n])), ((B_t_current 0), .inl (Y 0, 64, .inl t_current_cells)), ((B_t 1), .inr (6, [.ref (B_t_draft 0), .int t_draft_n])), ((B_t_draft 0), .inl (Y 0, 64, .inl t_draft_cells)), ((B_t 4), .inr (8, [.ref (B_t_twisting 0), .int t_twisting_modulus])), ((B_t_twisting 0), .inl (Y 0, 64, .inl t_twisting_values))]

set_option maxHeartbeats 4000000 in
set_option maxRecDepth 100000 in
theorem wk_X10_adoptDraft {p : Program} {l : Launch} {e : Env} {R : Room} {s : State} {m : MethodId} {args : Array Value} {below : List Frame} {meth : Method} {c : Code} {Q : State → Prop} {G : va_G} {Y : Nat → ClassId} {tF : Nat} {A : Nat → Prop} (h_t : Nat) (B_t : Nat → Nat) (B_t_current : Nat → Nat) (B_t_draft : Nat → Nat) (B_t_twisting : Nat → Nat) (t_toldCount : Int32) (t_current_n : Int32) (t_current_cells : Nat → Int32) (t_draft_n : Int32) (t_draft_cells : Nat → Int32) (t_twisting_modulus : Int32) (t_twisting_values : Nat → Int32) {K : Int32 → Int32 → (Nat → Int32) → (Nat → Int32) → Prop} (hx : p.tables.exec = Jvm.exec) (hb : c.code = cX10_adoptDraft) (hml : c.maxLocals = 1) (hown : s.vm.findClass RX10 = some m.cls) (hts : ∀ w ∈ wsX10_adoptDraft, w.before args s = true) (hK : va_K G vwCl (tyL Y) s) (hE : Ev A tF s) (hA : ∀ q, s.heap.size ≤ q → A q) (hRf : 2 ≤ R.frames) (hRl : 85 ≤ R.locals) (hret : ∀ (r : Int32) (t_current_n : Int32) (t_current_cells : Nat → Int32) (t_twisting_values : Nat → Int32) (H : Heap) (locs : List Loc) (ls : Array Slot) (pc : Nat), va_P G vwCl (w_X10_adoptDraft Y h_t B_t B_t_current B_t_draft B_t_twisting t_toldCount t_current_n t_current_cells t_draft_n t_draft_cells t_twisting_modulus t_twisting_values) H → va_D A (w_X10_adoptDraft Y h_t B_t B_t_current B_t_draft B_t_twisting t_toldCount t_current_n t_current_cells t_draft_n t_draft_cells t_twisting_modulus t_twisting_values) → va_S A s.heap H locs → K r t_current_n t_current_cells t_twisting_values → decode cX10_adoptDraft pc = .ok (.ireturn, 1) → W p l e R s m args below meth c H locs 0 0 Q (F0 m pc ls [.int r])) (hP : va_P G vwCl (w_X10_adoptDraft Y h_t B_t B_t_current B_t_draft B_t_twisting t_toldCount t_current_n t_current_cells t_draft_n t_draft_cells t_twisting_modulus t_twisting_values) s.heap) (hD : va_D A (w_X10_adoptDraft Y h_t B_t B_t_current B_t_draft B_t_twisting t_toldCount t_current_n t_current_cells t_draft_n t_draft_cells t_twisting_modulus t_twisting_values)) (h : pX10_adoptDraft t_current_n t_current_cells t_draft_n t_draft_cells t_twisting_values K) : W p l e R s m args below meth c s.heap [] 0 0 Q (entryFrame m ([.ref h_t] : List Value).toArray 1) := by
  have inX10 : ∀ w ∈ u_ws RX10 TX10 15, w ∈ wsX10_adoptDraft := by decide +kernel
  have inX7 : ∀ w ∈ u_ws RX7 TX7 2, w ∈ wsX10_adoptDraft := by decide +kernel
  have hf14 := hts (.fieldLink RX10 14 "RackBench" "current" "LRackBench$Table;") (by decide +kernel)
  have hf18 := hts (.fieldLink RX10 18 "RackBench" "draft" "LRackBench$Table;") (by decide +kernel)
  have hf31 := hts (.fieldLink RX10 31 "RackBench" "twisting" "LRackBench$Twist;") (by decide +kernel)
  have hl := lv_entry ([.ref h_t]) (n := 1) (Nat.le_of_ble_eq_true rfl)
  rw [lg_entry_eq]
  generalize (lg_sl ([.ref h_t]) ++ List.replicate (1 - (lg_sl ([.ref h_t])).length) Slot.unset).toArray = ls at hl ⊢
  have hl : lv_has ls 1 [(0, .ref h_t)] := hl
  generalize hH0 : s.heap = H at hP ⊢
  have hS : va_S A s.heap H [] := by rw [← hH0]; exact va_S.rf
  clear hH0
  generalize ([] : List Loc) = locs at hS ⊢
  refine lv_aload_n hx hb dX10_adoptDraft_0 rfl (lv_at hl 0 rfl) ?_
  refine va_get (D := G) (ci := 9) (v := .ref (B_t 0)) (C := RX10) (T := TX10) (N := 15) hx hb hts inX10 hown hK hP 0 rfl rfl 0 (by decide) hf14 (fun _ h9 => h9) rfl dX10_adoptDraft_1 ?_
  refine lv_aload_n hx hb dX10_adoptDraft_4 rfl (lv_at hl 0 rfl) ?_
  refine va_get (D := G) (ci := 9) (v := .ref (B_t 1)) (C := RX10) (T := TX10) (N := 15) hx hb hts inX10 hown hK hP 0 rfl rfl 1 (by decide) hf18 (fun _ h9 => h9) rfl dX10_adoptDraft_5 ?_
  refine mc_vV ⟨hx, hb, hml, hown, hts⟩ hK hE hA hP hD hS (c_X7_copy l G Y tF H.size (B_t 0) (B_t 1) B_t_current B_t_draft t_current_n t_current_cells t_draft_n t_draft_cells h) (cwV 1 hts gX10_adoptDraft_X7_copy rfl rfl rfl (by decide +kernel) ⟨Nat.le_trans (by decide) hRf, Nat.le_trans (by decide) hRl⟩) (fun u => (w_X10_adoptDraft Y h_t B_t B_t_current B_t_draft B_t_twisting t_toldCount u.1 u.2 t_draft_n t_draft_cells t_twisting_modulus t_twisting_values)) [1, 2, 3, 4] [0, 5, 6] [0, 3, 4, 5, 6, 1, 2] rfl rfl rfl rfl (by decide) (fun _ => rfl) rfl 1 6 rfl rfl rfl rfl hl.1 rfl (Nat.le_of_ble_eq_true rfl) dX10_adoptDraft_8 (fun u H locs h hP hD hS => ?_)
  obtain ⟨t_current_n_8, t_current_cells_8⟩ := u
  try dsimp only at h
  have hP : va_P G vwCl (w_X10_adoptDraft Y h_t B_t B_t_current B_t_draft B_t_twisting t_toldCount t_current_n_8 t_current_cells_8 t_draft_n t_draft_cells t_twisting_modulus t_twisting_values) H := hP
  have hD : va_D A (w_X10_adoptDraft Y h_t B_t B_t_current B_t_draft B_t_twisting t_toldCount t_current_n_8 t_current_cells_8 t_draft_n t_draft_cells t_twisting_modulus t_twisting_values) := hD
  refine lv_aload_n hx hb dX10_adoptDraft_11 rfl (lv_at hl 0 rfl) ?_
  refine va_get (D := G) (ci := 9) (v := .ref (B_t 4)) (C := RX10) (T := TX10) (N := 15) hx hb hts inX10 hown hK hP 0 rfl rfl 4 (by decide) hf31 (fun _ h9 => h9) rfl dX10_adoptDraft_12 ?_
  refine mc_vV ⟨hx, hb, hml, hown, hts⟩ hK hE hA hP hD hS (c_X9_flatten l G Y tF H.size (B_t 4) B_t_twisting t_twisting_modulus t_twisting_values h) (cwV 0 hts gX10_adoptDraft_X9_flatten rfl rfl rfl (by decide +kernel) ⟨Nat.le_trans (by decide) hRf, Nat.le_trans (by decide) hRl⟩) (fun u => (w_X10_adoptDraft Y h_t B_t B_t_current B_t_draft B_t_twisting t_toldCount t_current_n_8 t_current_cells_8 t_draft_n t_draft_cells t_twisting_modulus u)) [5, 6] [0, 1, 2, 3, 4] [0, 1, 2, 3, 4, 5, 6] rfl rfl rfl rfl (by decide) (fun _ => rfl) rfl 5 8 rfl rfl rfl rfl hl.1 rfl (Nat.le_of_ble_eq_true rfl) dX10_adoptDraft_15 (fun u H locs h hP hD hS => ?_)
  obtain ⟨t_twisting_values_15, rfl⟩ : ∃ z, z = u := ⟨_, rfl⟩
  try dsimp only at h
  have hP : va_P G vwCl (w_X10_adoptDraft Y h_t B_t B_t_current B_t_draft B_t_twisting t_toldCount t_current_n_8 t_current_cells_8 t_draft_n t_draft_cells t_twisting_modulus t_twisting_values_15) H := hP
  have hD : va_D A (w_X10_adoptDraft Y h_t B_t B_t_current B_t_draft B_t_twisting t_toldCount t_current_n_8 t_current_cells_8 t_draft_n t_draft_cells t_twisting_modulus t_twisting_values_15) := hD
  refine lv_aload_n hx hb dX10_adoptDraft_18 rfl (lv_at hl 0 rfl) ?_
  refine va_get (D := G) (ci := 9) (v := .ref (B_t 0)) (C := RX10) (T := TX10) (N := 15) hx hb hts inX10 hown hK hP 0 rfl rfl 0 (by decide) hf14 (fun _ h9 => h9) rfl dX10_adoptDraft_19 ?_
  refine va_getN (D := G) (ci := 6) (v := .int t_current_n_8) (C := RX7) (T := TX7) (N := 2) hx hb hts inX7 hown hK hP 1 rfl rfl 1 (by decide) (hE.nest args 0 _ rfl) (fun _ h9 => h9) rfl dX10_adoptDraft_22 ?_
  exact hret t_current_n_8 t_current_n_8 t_current_cells_8 t_twisting_values_15 H locs ls _ hP hD hS h dX10_adoptDraft_25

set_option maxHeartbeats 4000000 in
set_option maxRecDepth 100000 in
theorem c_X10_adoptDraft (l : Launch) (G : va_G) (Y : Nat → ClassId) (tF sz : Nat) (h_t : Nat) (B_t : Nat → Nat) (B_t_current : Nat → Nat) (B_t_draft : Nat → Nat) (B_t_twisting : Nat → Nat) (t_toldCount : Int32) (t_current_n : Int32) (t_current_cells : Nat → Int32) (t_draft_n : Int32) (t_draft_cells : Nat → Int32) (t_twisting_modulus : Int32) (t_twisting_values : Nat → Int32) {K : Int32 → Int32 → (Nat → Int32) → (Nat → Int32) → Prop} (h : pX10_adoptDraft t_current_n t_current_cells t_draft_n t_draft_cells t_twisting_values K) : Met l yX10_adoptDraft wsX10_adoptDraft ({ frames := 2, cells := 0, slots := 0, locals := 85 }) (PcM G Y tF sz (w_X10_adoptDraft Y h_t B_t B_t_current B_t_draft B_t_twisting t_toldCount t_current_n t_current_cells t_draft_n t_draft_cells t_twisting_modulus t_twisting_values) [.ref h_t]) (va_Qi (fun (r : Int32) (u : Int32 × (Nat → Int32) × (Nat → Int32)) => K r u.1 u.2.1 u.2.2) (fun u t => BM G Y (va_A (w_X10_adoptDraft Y h_t B_t B_t_current B_t_draft B_t_twisting t_toldCount t_current_n t_current_cells t_draft_n t_draft_cells t_twisting_modulus t_twisting_values) sz) (w_X10_adoptDraft Y h_t B_t B_t_current B_t_draft B_t_twisting t_toldCount u.1 u.2.1 t_draft_n t_draft_cells t_twisting_modulus u.2.2) t) (va_A (w_X10_adoptDraft Y h_t B_t B_t_current B_t_draft B_t_twisting t_toldCount t_current_n t_current_cells t_draft_n t_draft_cells t_twisting_modulus t_twisting_values) sz)) 0 0 (va_A (w_X10_adoptDraft Y h_t B_t B_t_current B_t_draft B_t_twisting t_toldCount t_current_n t_current_cells t_draft_n t_draft_cells t_twisting_modulus t_twisting_values) sz) := by
  refine Met.ofW (cc := cX10_adoptDraft) (maxL := 1) (ret := (some .int)) (by decide +kernel) rfl ?_
  intro p e s m args below meth c s₁ B hml hv
  obtain ⟨rfl, hsz, hP, hK, hD0, hE⟩ := hv
  have hts := atoms_spec (ws := wsX10_adoptDraft) B.pre
  have hown : s.vm.findClass RX10 = some m.cls := findClass_of_methodNamed B.named
  have hlocks := B.notSynchronized
  subst hsz
  have hD := hD0.self (sz := s.heap.size)
  exact wk_X10_adoptDraft h_t B_t B_t_current B_t_draft B_t_twisting t_toldCount t_current_n t_current_cells t_draft_n t_draft_cells t_twisting_modulus t_twisting_values B.exec B.bytes hml hown hts hK hE (fun q h => Or.inr h) (Nat.le_refl _) (Nat.le_refl _) (fun r t_current_n t_current_cells t_twisting_values H locs ls pc hP hD hS hk hd => W.iret (v := r) B.exec B.bytes B.returns (fun t ht hW => ⟨⟨r, (t_current_n, t_current_cells, t_twisting_values), rfl, hk, by rw [ht]; exact hP, va_K.moved hW.alike hK, hD⟩, hS.F ht⟩) hS.2.2 hd) hP hD h

abbrev w_X10_turn (Y : Nat → ClassId) (h_t : Nat) (B_t : Nat → Nat) (B_t_current : Nat → Nat) (B_t_draft : Nat → Nat) (B_t_twisting : Nat → Nat) (t_toldCount : Int32) (t_current_n : Int32) (t_current_cells : Nat → Int32) (t_draft_n : Int32) (t_draft_cells : Nat → Int32) (t_twisting_modulus : Int32) (t_twisting_values : Nat → Int32) : va_W := [(h_t, .inr (9, [.ref (B_t 0), .ref (B_t 1), .ref (B_t 2), .ref (B_t 3), .ref (B_t 4), .ref (B_t 5), .ref (B_t 6), .ref (B_t 7), .ref (B_t 8), .ref (B_t 9), .ref (B_t 10), .ref (B_t 11), .ref (B_t 12), .ref (B_t 13), .int t_toldCount])), ((B_t 0), .inr (6, [.ref (B_t_current 0), .int t_current_n])), ((B_t_current 0), .inl (Y 0, 64, .inl t_current_cells)), ((B_t 1), .inr (6, [.ref (B_t_draft 0), .int t_draft_n])), ((B_t_draft 0), .inl (Y 0, 64, .inl t_draft_cells)), ((B_t 4), .inr (8, [.ref (B_t_twisting 0), .int t_twisting_modulus])), ((B_t_twisting 0), .inl (Y 0, 64, .inl t_twisting_values))]

set_option maxHeartbeats 4000000 in
set_option maxRecDepth 100000 in
theorem wk_X10_turn {p : Program} {l : Launch} {e : Env} {R : Room} {s : State} {m : MethodId} {args : Array Value} {below : List Frame} {meth : Method} {c : Code} {Q : State → Prop} {G : va_G} {Y : Nat → ClassId} {tF : Nat} {A : Nat → Prop} (h_t : Nat) (B_t : Nat → Nat) (B_t_current : Nat → Nat) (B_t_draft : Nat → Nat) (B_t_twisting : Nat → Nat) (t_toldCount : Int32) (t_current_n : Int32) (t_current_cells : Nat → Int32) (t_draft_n : Int32) (t_draft_cells : Nat → Int32) (t_twisting_modulus : Int32) (t_twisting_values : Nat → Int32) (x1 : Int32) (x2 : Int32) {K : Int32 → Int32 → (Nat → Int32) → Int32 → (Nat → Int32) → (Nat → Int32) → Prop} (hx : p.tables.exec = Jvm.exec) (hb : c.code = cX10_turn) (hml : c.maxLocals = 5) (hown : s.vm.findClass RX10 = some m.cls) (hts : ∀ w ∈ wsX10_turn, w.before args s = true) (hK : va_K G vwCl (tyL Y) s) (hE : Ev A tF s) (hA : ∀ q, s.heap.size ≤ q → A q) (hRf : 3 ≤ R.frames) (hRl : 105 ≤ R.locals) (hret : ∀ (r : Int32) (t_current_n : Int32) (t_current_cells : Nat → Int32) (t_draft_n : Int32) (t_draft_cells : Nat → Int32) (t_twisting_values : Nat → Int32) (H : Heap) (locs : List Loc) (ls : Array Slot) (pc : Nat), va_P G vwCl (w_X10_turn Y h_t B_t B_t_current B_t_draft B_t_twisting t_toldCount t_current_n t_current_cells t_draft_n t_draft_cells t_twisting_modulus t_twisting_values) H → va_D A (w_X10_turn Y h_t B_t B_t_current B_t_draft B_t_twisting t_toldCount t_current_n t_current_cells t_draft_n t_draft_cells t_twisting_modulus t_twisting_values) → va_S A s.heap H locs → zb r → K r t_current_n t_current_cells t_draft_n t_draft_cells t_twisting_values → decode cX10_turn pc = .ok (.ireturn, 1) → W p l e R s m args below meth c H locs 0 0 Q (F0 m pc ls [.int r])) (hP : va_P G vwCl (w_X10_turn Y h_t B_t B_t_current B_t_draft B_t_twisting t_toldCount t_current_n t_current_cells t_draft_n t_draft_cells t_twisting_modulus t_twisting_values) s.heap) (hD : va_D A (w_X10_turn Y h_t B_t B_t_current B_t_draft B_t_twisting t_toldCount t_current_n t_current_cells t_draft_n t_draft_cells t_twisting_modulus t_twisting_values)) (h : pX10_turn t_current_n t_current_cells t_draft_n t_draft_cells t_twisting_values x1 x2 K) : W p l e R s m args below meth c s.heap [] 0 0 Q (entryFrame m ([.ref h_t, .int x1, .int x2] : List Value).toArray 5) := by
  have inX10 : ∀ w ∈ u_ws RX10 TX10 15, w ∈ wsX10_turn := by decide +kernel
  have inX7 : ∀ w ∈ u_ws RX7 TX7 2, w ∈ wsX10_turn := by decide +kernel
  have hf136 := hts (.fieldLink RX10 136 "RackBench" "FACTORIALS" "[I") (by decide +kernel)
  have hf18 := hts (.fieldLink RX10 18 "RackBench" "draft" "LRackBench$Table;") (by decide +kernel)
  have hl := lv_entry ([.ref h_t, .int x1, .int x2]) (n := 5) (Nat.le_of_ble_eq_true rfl)
  rw [lg_entry_eq]
  generalize (lg_sl ([.ref h_t, .int x1, .int x2]) ++ List.replicate (5 - (lg_sl ([.ref h_t, .int x1, .int x2])).length) Slot.unset).toArray = ls at hl ⊢
  have hl : lv_has ls 5 [(0, .ref h_t), (1, .int x1), (2, .int x2)] := hl
  generalize hH0 : s.heap = H at hP ⊢
  have hS : va_S A s.heap H [] := by rw [← hH0]; exact va_S.rf
  clear hH0
  generalize ([] : List Loc) = locs at hS ⊢
  refine lv_iload_n hx hb dX10_turn_0 rfl (lv_at hl 1 rfl) ?_
  refine mc_iS ⟨hx, hb, hml, hown, hts⟩ hK hE hA hP hD hS (c_X10_isSize l G Y tF H.size x1 h) (va_cwS 1 hts gX10_turn_X10_isSize rfl rfl rfl (by decide +kernel) ⟨Nat.le_trans (by decide) hRf, Nat.le_trans (by decide) hRl⟩) (fun u => (w_X10_turn Y h_t B_t B_t_current B_t_draft B_t_twisting t_toldCount t_current_n t_current_cells t_draft_n t_draft_cells t_twisting_modulus t_twisting_values)) [] [0, 1, 2, 3, 4, 5, 6] [0, 1, 2, 3, 4, 5, 6] rfl rfl rfl rfl (by decide) (fun _ => rfl) rfl rfl hl.1 rfl (Nat.le_of_ble_eq_true rfl) dX10_turn_1 (fun r1 u H locs h hP hD hS => ?_)
  try dsimp only at h
  have hP : va_P G vwCl (w_X10_turn Y h_t B_t B_t_current B_t_draft B_t_twisting t_toldCount t_current_n t_current_cells t_draft_n t_draft_cells t_twisting_modulus t_twisting_values) H := hP
  have hD : va_D A (w_X10_turn Y h_t B_t B_t_current B_t_draft B_t_twisting t_toldCount t_current_n t_current_cells t_draft_n t_draft_cells t_twisting_modulus t_twisting_values) := hD
  obtain ⟨ht, hf⟩ := h
  refine lv_if_eq (tgt := 20) hx hb dX10_turn_4 (by decide) (fun c9 => ?_) (fun c9 => ?_)
  · have h := ht c9
    refine lv_iconst (v := 0) hx hb dX10_turn_20 (by decide) ?_
    obtain ⟨hz, h⟩ := h
    exact hret (0 : Int32) t_current_n t_current_cells t_draft_n t_draft_cells t_twisting_values H locs ls _ hP hD hS hz h dX10_turn_21
  · have h := hf c9
    refine lv_iload_n hx hb dX10_turn_7 rfl (lv_at hl 2 rfl) ?_
    obtain ⟨ht, hf⟩ := h
    refine lv_if_lt (tgt := 20) hx hb dX10_turn_8 (by decide) (fun c9 => ?_) (fun c9 => ?_)
    · have h := ht c9
      refine lv_iconst (v := 0) hx hb dX10_turn_20 (by decide) ?_
      obtain ⟨hz, h⟩ := h
      exact hret (0 : Int32) t_current_n t_current_cells t_draft_n t_draft_cells t_twisting_values H locs ls _ hP hD hS hz h dX10_turn_21
    · have h := hf c9
      refine lv_iload_n hx hb dX10_turn_11 rfl (lv_at hl 2 rfl) ?_
      refine va_gets hx hb hE.2.1 hS hown hf136 (fun _ h9 => h9) dX10_turn_12 ?_
      refine lv_iload_n hx hb dX10_turn_15 rfl (lv_at hl 1 rfl) ?_
      obtain ⟨hin, h⟩ := h
      refine va_ti hx hb hE.2.2 hS hin rfl dX10_turn_16 ?_
      obtain ⟨ht, hf⟩ := h
      refine lv_icmp_lt (tgt := 22) hx hb dX10_turn_17 (by decide) (fun c9 => ?_) (fun c9 => ?_)
      · have h := ht c9
        refine lv_iload_n hx hb dX10_turn_22 rfl (lv_at hl 1 rfl) ?_
        refine lv_iload_n hx hb dX10_turn_23 rfl (lv_at hl 2 rfl) ?_
        refine mc_iS ⟨hx, hb, hml, hown, hts⟩ hK hE hA hP hD hS (c_X5_numbered l G Y tF H.size x1 x2 h) (va_cwS 2 hts gX10_turn_X5_numbered rfl rfl rfl (by decide +kernel) ⟨Nat.le_trans (by decide) hRf, Nat.le_trans (by decide) hRl⟩) (fun u => (w_X10_turn Y h_t B_t B_t_current B_t_draft B_t_twisting t_toldCount t_current_n t_current_cells t_draft_n t_draft_cells t_twisting_modulus t_twisting_values)) [] [0, 1, 2, 3, 4, 5, 6] [0, 1, 2, 3, 4, 5, 6] rfl rfl rfl rfl (by decide) (fun _ => rfl) rfl rfl hl.1 rfl (Nat.le_of_ble_eq_true rfl) dX10_turn_24 (fun r24 u H locs h hP hD hS => ?_)
        try dsimp only at h
        have hP : va_P G vwCl (w_X10_turn Y h_t B_t B_t_current B_t_draft B_t_twisting t_toldCount t_current_n t_current_cells t_draft_n t_draft_cells t_twisting_modulus t_twisting_values) H := hP
        have hD : va_D A (w_X10_turn Y h_t B_t B_t_current B_t_draft B_t_twisting t_toldCount t_current_n t_current_cells t_draft_n t_draft_cells t_twisting_modulus t_twisting_values) := hD
        refine lv_istore_n (lv' := [(3, .int r24), (0, .ref h_t), (1, .int x1), (2, .int x2)]) hx hb dX10_turn_27 rfl hl (by decide) rfl (fun ls hl => ?_)
        refine lv_aload_n hx hb dX10_turn_28 rfl (lv_at hl 1 rfl) ?_
        refine va_get (D := G) (ci := 9) (v := .ref (B_t 1)) (C := RX10) (T := TX10) (N := 15) hx hb hts inX10 hown hK hP 0 rfl rfl 1 (by decide) hf18 (fun _ h9 => h9) rfl dX10_turn_29 ?_
        refine lv_iload_n hx hb dX10_turn_32 rfl (lv_at hl 2 rfl) ?_
        refine va_putN (D := G) (ci := 6) (v := .int x1) (ty := .int) (C := RX7) (T := TX7) (N := 2) hx hb hts inX7 tyX7 tyX7_ok nmX7 hown hK hP hD hS 3 rfl rfl 1 (by decide) (hE.nest args 0 _ rfl) (fun _ h9 => h9) rfl (by decide +kernel) rfl rfl (Nat.le_of_ble_eq_true rfl) dX10_turn_33 (fun H locs hP hD hS => ?_)
        have hP : va_P G vwCl (w_X10_turn Y h_t B_t B_t_current B_t_draft B_t_twisting t_toldCount t_current_n t_current_cells x1 t_draft_cells t_twisting_modulus t_twisting_values) H := hP
        have hD : va_D A (w_X10_turn Y h_t B_t B_t_current B_t_draft B_t_twisting t_toldCount t_current_n t_current_cells x1 t_draft_cells t_twisting_modulus t_twisting_values) := hD
        refine lv_iconst (v := 0) hx hb dX10_turn_36 (by decide) ?_
        refine lv_istore (lv' := [(4, .int (0 : Int32)), (3, .int r24), (0, .ref h_t), (1, .int x1), (2, .int x2)]) hx hb dX10_turn_37 hl (by decide) rfl (fun ls hl => ?_)
        obtain ⟨I39, m39, hI39, hB39⟩ := h
        have L39 : ∀ (x1 : Int32) (x3 : Int32) (t_current_n : Int32) (t_current_cells : Nat → Int32) (t_draft_n : Int32) (t_twisting_values : Nat → Int32) (I39 : Int32 → (Nat → Int32) → Prop) (m39 : Int32 → (Nat → Int32) → Nat), (∀ (x4 : Int32) (t_draft_cells : Nat → Int32), I39 x4 t_draft_cells → pX10_turn_39 K x1 x3 t_current_n t_current_cells t_draft_n t_twisting_values x4 t_draft_cells (fun x4' t_draft_cells' => I39 x4' t_draft_cells' ∧ m39 x4' t_draft_cells' < m39 x4 t_draft_cells)) → ∀ (n : Nat) (x4 : Int32) (t_draft_cells : Nat → Int32) (H : Heap) (locs : List Loc) (ls : Array Slot), I39 x4 t_draft_cells → m39 x4 t_draft_cells < n → va_P G vwCl (w_X10_turn Y h_t B_t B_t_current B_t_draft B_t_twisting t_toldCount t_current_n t_current_cells t_draft_n t_draft_cells t_twisting_modulus t_twisting_values) H → va_D A (w_X10_turn Y h_t B_t B_t_current B_t_draft B_t_twisting t_toldCount t_current_n t_current_cells t_draft_n t_draft_cells t_twisting_modulus t_twisting_values) → va_S A s.heap H locs → lv_has ls 5 [(0, .ref h_t), (1, .int x1), (3, .int x3), (4, .int x4)] → W p l e R s m args below meth c H locs 0 0 Q (F0 m 39 ls []) := by
          intro x1 x3 t_current_n t_current_cells t_draft_n t_twisting_values I39 m39 hB39 n
          induction n with
          | zero => intro x4 t_draft_cells H locs ls _ hm; exact absurd hm (Nat.not_lt_zero _)
          | succ n ih =>
            intro x4 t_draft_cells H locs ls hI hm hP hD hS hl
            obtain ⟨R39, h, rec39⟩ : ∃ R39 : Int32 → (Nat → Int32) → Prop, pX10_turn_39 K x1 x3 t_current_n t_current_cells t_draft_n t_twisting_values x4 t_draft_cells R39 ∧ ∀ (x4 : Int32) (t_draft_cells : Nat → Int32) (H : Heap) (locs : List Loc) (ls : Array Slot), R39 x4 t_draft_cells → va_P G vwCl (w_X10_turn Y h_t B_t B_t_current B_t_draft B_t_twisting t_toldCount t_current_n t_current_cells t_draft_n t_draft_cells t_twisting_modulus t_twisting_values) H → va_D A (w_X10_turn Y h_t B_t B_t_current B_t_draft B_t_twisting t_toldCount t_current_n t_current_cells t_draft_n t_draft_cells t_twisting_modulus t_twisting_values) → va_S A s.heap H locs → lv_has ls 5 [(0, .ref h_t), (1, .int x1), (3, .int x3), (4, .int x4)] → W p l e R s m args below meth c H locs 0 0 Q (F0 m 39 ls []) := ⟨_, hB39 x4 t_draft_cells hI, fun x4 t_draft_cells H locs ls hh hP hD hS hl => ih x4 t_draft_cells H locs ls hh.1 (Nat.lt_of_lt_of_le hh.2 (Nat.le_of_lt_succ hm)) hP hD hS hl⟩
            refine lv_iload hx hb dX10_turn_39 (lv_at hl 3 rfl) ?_
            refine lv_iload_n hx hb dX10_turn_41 rfl (lv_at hl 1 rfl) ?_
            obtain ⟨ht, hf⟩ := h
            refine lv_icmp_ge (tgt := 61) hx hb dX10_turn_42 (by decide) (fun c9 => ?_) (fun c9 => ?_)
            · have h := ht c9
              refine lv_aload_n hx hb dX10_turn_61 rfl (lv_at hl 0 rfl) ?_
              refine mc_iV ⟨hx, hb, hml, hown, hts⟩ hK hE hA hP hD hS (c_X10_adoptDraft l G Y tF H.size h_t B_t B_t_current B_t_draft B_t_twisting t_toldCount t_current_n t_current_cells t_draft_n t_draft_cells t_twisting_modulus t_twisting_values h) (cwV 0 hts gX10_turn_X10_adoptDraft rfl rfl rfl (by decide +kernel) ⟨Nat.le_trans (by decide) hRf, Nat.le_trans (by decide) hRl⟩) (fun u => (w_X10_turn Y h_t B_t B_t_current B_t_draft B_t_twisting t_toldCount u.1 u.2.1 t_draft_n t_draft_cells t_twisting_modulus u.2.2)) [0, 1, 2, 3, 4, 5, 6] [] [0, 1, 2, 3, 4, 5, 6] rfl rfl rfl rfl (by decide) (fun _ => rfl) rfl 0 9 rfl rfl rfl rfl hl.1 rfl (Nat.le_of_ble_eq_true rfl) dX10_turn_62 (fun r62 u H locs h hP hD hS => ?_)
              obtain ⟨t_current_n_62, t_current_cells_62, t_twisting_values_62⟩ := u
              try dsimp only at h
              have hP : va_P G vwCl (w_X10_turn Y h_t B_t B_t_current B_t_draft B_t_twisting t_toldCount t_current_n_62 t_current_cells_62 t_draft_n t_draft_cells t_twisting_modulus t_twisting_values_62) H := hP
              have hD : va_D A (w_X10_turn Y h_t B_t B_t_current B_t_draft B_t_twisting t_toldCount t_current_n_62 t_current_cells_62 t_draft_n t_draft_cells t_twisting_modulus t_twisting_values_62) := hD
              refine lv_pop hx hb dX10_turn_65 rfl ?_
              refine lv_iconst (v := 1) hx hb dX10_turn_66 (by decide) ?_
              obtain ⟨hz, h⟩ := h
              exact hret (1 : Int32) t_current_n_62 t_current_cells_62 t_draft_n t_draft_cells t_twisting_values_62 H locs ls _ hP hD hS hz h dX10_turn_67
            · have h := hf c9
              refine lv_aload_n hx hb dX10_turn_45 rfl (lv_at hl 0 rfl) ?_
              refine va_get (D := G) (ci := 9) (v := .ref (B_t 1)) (C := RX10) (T := TX10) (N := 15) hx hb hts inX10 hown hK hP 0 rfl rfl 1 (by decide) hf18 (fun _ h9 => h9) rfl dX10_turn_46 ?_
              refine lv_iload hx hb dX10_turn_49 (lv_at hl 3 rfl) ?_
              refine lv_iload_n hx hb dX10_turn_51 rfl (lv_at hl 2 rfl) ?_
              refine mc_vV ⟨hx, hb, hml, hown, hts⟩ hK hE hA hP hD hS (c_X7_putRow l G Y tF H.size (B_t 1) B_t_draft t_draft_n t_draft_cells x4 x3 h) (cwV 2 hts gX10_turn_X7_putRow rfl rfl rfl (by decide +kernel) ⟨Nat.le_trans (by decide) hRf, Nat.le_trans (by decide) hRl⟩) (fun u => (w_X10_turn Y h_t B_t B_t_current B_t_draft B_t_twisting t_toldCount t_current_n t_current_cells t_draft_n u t_twisting_modulus t_twisting_values)) [3, 4] [0, 1, 2, 5, 6] [0, 1, 2, 5, 6, 3, 4] rfl rfl rfl rfl (by decide) (fun _ => rfl) rfl 3 6 rfl rfl rfl rfl hl.1 rfl (Nat.le_of_ble_eq_true rfl) dX10_turn_52 (fun u H locs h hP hD hS => ?_)
              obtain ⟨t_draft_cells_52, rfl⟩ : ∃ z, z = u := ⟨_, rfl⟩
              try dsimp only at h
              have hP : va_P G vwCl (w_X10_turn Y h_t B_t B_t_current B_t_draft B_t_twisting t_toldCount t_current_n t_current_cells t_draft_n t_draft_cells_52 t_twisting_modulus t_twisting_values) H := hP
              have hD : va_D A (w_X10_turn Y h_t B_t B_t_current B_t_draft B_t_twisting t_toldCount t_current_n t_current_cells t_draft_n t_draft_cells_52 t_twisting_modulus t_twisting_values) := hD
              refine lv_iinc (v := (x4 + 1)) (lv' := [(4, .int (x4 + 1)), (0, .ref h_t), (1, .int x1), (3, .int x3)]) hx hb dX10_turn_55 hl (k := 3) rfl rfl (by decide) rfl (fun ls hl => ?_)
              refine lv_goto (tgt := 39) hx hb dX10_turn_58 (by decide) ?_
              exact rec39 (x4 + 1) t_draft_cells_52 H locs ls h hP hD hS (lv_sub hl [1, 2, 3, 0] rfl)
        exact L39 x1 r24 t_current_n t_current_cells x1 t_twisting_values I39 m39 hB39 _ (0 : Int32) t_draft_cells H locs ls hI39 (Nat.lt_succ_self _) hP hD hS (lv_sub hl [2, 3, 1, 0] rfl)
      · have h := hf c9
        refine lv_iconst (v := 0) hx hb dX10_turn_20 (by decide) ?_
        obtain ⟨hz, h⟩ := h
        exact hret (0 : Int32) t_current_n t_current_cells t_draft_n t_draft_cells t_twisting_values H locs ls _ hP hD hS hz h dX10_turn_21

set_option maxHeartbeats 4000000 in
set_option maxRecDepth 100000 in
theorem c_X10_turn (l : Launch) (G : va_G) (Y : Nat → ClassId) (tF sz : Nat) (h_t : Nat) (B_t : Nat → Nat) (B_t_current : Nat → Nat) (B_t_draft : Nat → Nat) (B_t_twisting : Nat → Nat) (t_toldCount : Int32) (t_current_n : Int32) (t_current_cells : Nat → Int32) (t_draft_n : Int32) (t_draft_cells : Nat → Int32) (t_twisting_modulus : Int32) (t_twisting_values : Nat → Int32) (x1 : Int32) (x2 : Int32) {K : Int32 → Int32 → (Nat → Int32) → Int32 → (Nat → Int32) → (Nat → Int32) → Prop} (h : pX10_turn t_current_n t_current_cells t_draft_n t_draft_cells t_twisting_values x1 x2 K) : Met l yX10_turn wsX10_turn ({ frames := 3, cells := 0, slots := 0, locals := 105 }) (PcM G Y tF sz (w_X10_turn Y h_t B_t B_t_current B_t_draft B_t_twisting t_toldCount t_current_n t_current_cells t_draft_n t_draft_cells t_twisting_modulus t_twisting_values) [.ref h_t, .int x1, .int x2]) (va_Qi (fun (r : Int32) (u : Int32 × (Nat → Int32) × Int32 × (Nat → Int32) × (Nat → Int32)) => K r u.1 u.2.1 u.2.2.1 u.2.2.2.1 u.2.2.2.2) (fun u t => BM G Y (va_A (w_X10_turn Y h_t B_t B_t_current B_t_draft B_t_twisting t_toldCount t_current_n t_current_cells t_draft_n t_draft_cells t_twisting_modulus t_twisting_values) sz) (w_X10_turn Y h_t B_t B_t_current B_t_draft B_t_twisting t_toldCount u.1 u.2.1 u.2.2.1 u.2.2.2.1 t_twisting_modulus u.2.2.2.2) t) (va_A (w_X10_turn Y h_t B_t B_t_current B_t_draft B_t_twisting t_toldCount t_current_n t_current_cells t_draft_n t_draft_cells t_twisting_modulus t_twisting_values) sz)) 0 0 (va_A (w_X10_turn Y h_t B_t B_t_current B_t_draft B_t_twisting t_toldCount t_current_n t_current_cells t_draft_n t_draft_cells t_twisting_modulus t_twisting_values) sz) := by
  refine Met.ofW (cc := cX10_turn) (maxL := 5) (ret := (some .boolean)) (by decide +kernel) rfl ?_
  intro p e s m args below meth c s₁ B hml hv
  obtain ⟨rfl, hsz, hP, hK, hD0, hE⟩ := hv
  have hts := atoms_spec (ws := wsX10_turn) B.pre
  have hown : s.vm.findClass RX10 = some m.cls := findClass_of_methodNamed B.named
  have hlocks := B.notSynchronized
  subst hsz
  have hD := hD0.self (sz := s.heap.size)
  exact wk_X10_turn h_t B_t B_t_current B_t_draft B_t_twisting t_toldCount t_current_n t_current_cells t_draft_n t_draft_cells t_twisting_modulus t_twisting_values x1 x2 B.exec B.bytes hml hown hts hK hE (fun q h => Or.inr h) (Nat.le_refl _) (Nat.le_refl _) (fun r t_current_n t_current_cells t_draft_n t_draft_cells t_twisting_values H locs ls pc hP hD hS hz hk hd => W.zret (v := r) B.exec B.bytes B.returns hz.n (fun t ht hW => ⟨⟨r, (t_current_n, t_current_cells, t_draft_n, t_draft_cells, t_twisting_values), rfl, hk, by rw [ht]; exact hP, va_K.moved hW.alike hK, hD⟩, hS.F ht⟩) hS.2.2 hd) hP hD h

abbrev w_X10_table (Y : Nat → ClassId) (h_t : Nat) (B_t : Nat → Nat) (B_t_current : Nat → Nat) (B_t_draft : Nat → Nat) (B_t_twisting : Nat → Nat) (t_toldCount : Int32) (t_current_n : Int32) (t_current_cells : Nat → Int32) (t_draft_n : Int32) (t_draft_cells : Nat → Int32) (t_twisting_modulus : Int32) (t_twisting_values : Nat → Int32) : va_W := [(h_t, .inr (9, [.ref (B_t 0), .ref (B_t 1), .ref (B_t 2), .ref (B_t 3), .ref (B_t 4), .ref (B_t 5), .ref (B_t 6), .ref (B_t 7), .ref (B_t 8), .ref (B_t 9), .ref (B_t 10), .ref (B_t 11), .ref (B_t 12), .ref (B_t 13), .int t_toldCount])), ((B_t 0), .inr (6, [.ref (B_t_current 0), .int t_current_n])), ((B_t_current 0), .inl (Y 0, 64, .inl t_current_cells)), ((B_t 1), .inr (6, [.ref (B_t_draft 0), .int t_draft_n])), ((B_t_draft 0), .inl (Y 0, 64, .inl t_draft_cells)), ((B_t 4), .inr (8, [.ref (B_t_twisting 0), .int t_twisting_modulus])), ((B_t_twisting 0), .inl (Y 0, 64, .inl t_twisting_values))]

set_option maxHeartbeats 4000000 in
set_option maxRecDepth 100000 in
theorem wk_X10_table {p : Program} {l : Launch} {e : Env} {R : Room} {s : State} {m : MethodId} {args : Array Value} {below : List Frame} {meth : Method} {c : Code} {Q : State → Prop} {G : va_G} {Y : Nat → ClassId} {tF : Nat} {A : Nat → Prop} (h_t : Nat) (B_t : Nat → Nat) (B_t_current : Nat → Nat) (B_t_draft : Nat → Nat) (B_t_twisting : Nat → Nat) (t_toldCount : Int32) (t_current_n : Int32) (t_current_cells : Nat → Int32) (t_draft_n : Int32) (t_draft_cells : Nat → Int32) (t_twisting_modulus : Int32) (t_twisting_values : Nat → Int32) (x1 : Int32) {K : Int32 → Int32 → (Nat → Int32) → Int32 → (Nat → Int32) → (Nat → Int32) → Prop} (hx : p.tables.exec = Jvm.exec) (hb : c.code = cX10_table) (hml : c.maxLocals = 2) (hown : s.vm.findClass RX10 = some m.cls) (hts : ∀ w ∈ wsX10_table, w.before args s = true) (hK : va_K G vwCl (tyL Y) s) (hE : Ev A tF s) (hA : ∀ q, s.heap.size ≤ q → A q) (hRf : 4 ≤ R.frames) (hRl : 129 ≤ R.locals) (hret : ∀ (r : Int32) (t_current_n : Int32) (t_current_cells : Nat → Int32) (t_draft_n : Int32) (t_draft_cells : Nat → Int32) (t_twisting_values : Nat → Int32) (H : Heap) (locs : List Loc) (ls : Array Slot) (pc : Nat), va_P G vwCl (w_X10_table Y h_t B_t B_t_current B_t_draft B_t_twisting t_toldCount t_current_n t_current_cells t_draft_n t_draft_cells t_twisting_modulus t_twisting_values) H → va_D A (w_X10_table Y h_t B_t B_t_current B_t_draft B_t_twisting t_toldCount t_current_n t_current_cells t_draft_n t_draft_cells t_twisting_modulus t_twisting_values) → va_S A s.heap H locs → zb r → K r t_current_n t_current_cells t_draft_n t_draft_cells t_twisting_values → decode cX10_table pc = .ok (.ireturn, 1) → W p l e R s m args below meth c H locs 0 0 Q (F0 m pc ls [.int r])) (hP : va_P G vwCl (w_X10_table Y h_t B_t B_t_current B_t_draft B_t_twisting t_toldCount t_current_n t_current_cells t_draft_n t_draft_cells t_twisting_modulus t_twisting_values) s.heap) (hD : va_D A (w_X10_table Y h_t B_t B_t_current B_t_draft B_t_twisting t_toldCount t_current_n t_current_cells t_draft_n t_draft_cells t_twisting_modulus t_twisting_values)) (h : pX10_table t_current_n t_current_cells t_draft_n t_draft_cells t_twisting_values x1 K) : W p l e R s m args below meth c s.heap [] 0 0 Q (entryFrame m ([.ref h_t, .int x1] : List Value).toArray 2) := by
  have hl := lv_entry ([.ref h_t, .int x1]) (n := 2) (Nat.le_of_ble_eq_true rfl)
  rw [lg_entry_eq]
  generalize (lg_sl ([.ref h_t, .int x1]) ++ List.replicate (2 - (lg_sl ([.ref h_t, .int x1])).length) Slot.unset).toArray = ls at hl ⊢
  have hl : lv_has ls 2 [(0, .ref h_t), (1, .int x1)] := hl
  generalize hH0 : s.heap = H at hP ⊢
  have hS : va_S A s.heap H [] := by rw [← hH0]; exact va_S.rf
  clear hH0
  generalize ([] : List Loc) = locs at hS ⊢
  refine lv_aload_n hx hb dX10_table_0 rfl (lv_at hl 0 rfl) ?_
  refine lv_iload_n hx hb dX10_table_1 rfl (lv_at hl 1 rfl) ?_
  refine lv_iconst (v := 0) hx hb dX10_table_2 (by decide) ?_
  refine mc_iV ⟨hx, hb, hml, hown, hts⟩ hK hE hA hP hD hS (c_X10_turn l G Y tF H.size h_t B_t B_t_current B_t_draft B_t_twisting t_toldCount t_current_n t_current_cells t_draft_n t_draft_cells t_twisting_modulus t_twisting_values x1 (0 : Int32) h) (cwV 2 hts gX10_table_X10_turn rfl rfl rfl (by decide +kernel) ⟨Nat.le_trans (by decide) hRf, Nat.le_trans (by decide) hRl⟩) (fun u => (w_X10_table Y h_t B_t B_t_current B_t_draft B_t_twisting t_toldCount u.1 u.2.1 u.2.2.1 u.2.2.2.1 t_twisting_modulus u.2.2.2.2)) [0, 1, 2, 3, 4, 5, 6] [] [0, 1, 2, 3, 4, 5, 6] rfl rfl rfl rfl (by decide) (fun _ => rfl) rfl 0 9 rfl rfl rfl rfl hl.1 rfl (Nat.le_of_ble_eq_true rfl) dX10_table_3 (fun r3 u H locs h hP hD hS => ?_)
  obtain ⟨t_current_n_3, t_current_cells_3, t_draft_n_3, t_draft_cells_3, t_twisting_values_3⟩ := u
  try dsimp only at h
  have hP : va_P G vwCl (w_X10_table Y h_t B_t B_t_current B_t_draft B_t_twisting t_toldCount t_current_n_3 t_current_cells_3 t_draft_n_3 t_draft_cells_3 t_twisting_modulus t_twisting_values_3) H := hP
  have hD : va_D A (w_X10_table Y h_t B_t B_t_current B_t_draft B_t_twisting t_toldCount t_current_n_3 t_current_cells_3 t_draft_n_3 t_draft_cells_3 t_twisting_modulus t_twisting_values_3) := hD
  obtain ⟨hz, h⟩ := h
  exact hret r3 t_current_n_3 t_current_cells_3 t_draft_n_3 t_draft_cells_3 t_twisting_values_3 H locs ls _ hP hD hS hz h dX10_table_6

set_option maxHeartbeats 4000000 in
set_option maxRecDepth 100000 in
theorem c_X10_table (l : Launch) (G : va_G) (Y : Nat → ClassId) (tF sz : Nat) (h_t : Nat) (B_t : Nat → Nat) (B_t_current : Nat → Nat) (B_t_draft : Nat → Nat) (B_t_twisting : Nat → Nat) (t_toldCount : Int32) (t_current_n : Int32) (t_current_cells : Nat → Int32) (t_draft_n : Int32) (t_draft_cells : Nat → Int32) (t_twisting_modulus : Int32) (t_twisting_values : Nat → Int32) (x1 : Int32) {K : Int32 → Int32 → (Nat → Int32) → Int32 → (Nat → Int32) → (Nat → Int32) → Prop} (h : pX10_table t_current_n t_current_cells t_draft_n t_draft_cells t_twisting_values x1 K) : Met l yX10_table wsX10_table ({ frames := 4, cells := 0, slots := 0, locals := 129 }) (PcM G Y tF sz (w_X10_table Y h_t B_t B_t_current B_t_draft B_t_twisting t_toldCount t_current_n t_current_cells t_draft_n t_draft_cells t_twisting_modulus t_twisting_values) [.ref h_t, .int x1]) (va_Qi (fun (r : Int32) (u : Int32 × (Nat → Int32) × Int32 × (Nat → Int32) × (Nat → Int32)) => K r u.1 u.2.1 u.2.2.1 u.2.2.2.1 u.2.2.2.2) (fun u t => BM G Y (va_A (w_X10_table Y h_t B_t B_t_current B_t_draft B_t_twisting t_toldCount t_current_n t_current_cells t_draft_n t_draft_cells t_twisting_modulus t_twisting_values) sz) (w_X10_table Y h_t B_t B_t_current B_t_draft B_t_twisting t_toldCount u.1 u.2.1 u.2.2.1 u.2.2.2.1 t_twisting_modulus u.2.2.2.2) t) (va_A (w_X10_table Y h_t B_t B_t_current B_t_draft B_t_twisting t_toldCount t_current_n t_current_cells t_draft_n t_draft_cells t_twisting_modulus t_twisting_values) sz)) 0 0 (va_A (w_X10_table Y h_t B_t B_t_current B_t_draft B_t_twisting t_toldCount t_current_n t_current_cells t_draft_n t_draft_cells t_twisting_modulus t_twisting_values) sz) := by
  refine Met.ofW (cc := cX10_table) (maxL := 2) (ret := (some .boolean)) (by decide +kernel) rfl ?_
  intro p e s m args below meth c s₁ B hml hv
  obtain ⟨rfl, hsz, hP, hK, hD0, hE⟩ := hv
  have hts := atoms_spec (ws := wsX10_table) B.pre
  have hown : s.vm.findClass RX10 = some m.cls := findClass_of_methodNamed B.named
  have hlocks := B.notSynchronized
  subst hsz
  have hD := hD0.self (sz := s.heap.size)
  exact wk_X10_table h_t B_t B_t_current B_t_draft B_t_twisting t_toldCount t_current_n t_current_cells t_draft_n t_draft_cells t_twisting_modulus t_twisting_values x1 B.exec B.bytes hml hown hts hK hE (fun q h => Or.inr h) (Nat.le_refl _) (Nat.le_refl _) (fun r t_current_n t_current_cells t_draft_n t_draft_cells t_twisting_values H locs ls pc hP hD hS hz hk hd => W.zret (v := r) B.exec B.bytes B.returns hz.n (fun t ht hW => ⟨⟨r, (t_current_n, t_current_cells, t_draft_n, t_draft_cells, t_twisting_values), rfl, hk, by rw [ht]; exact hP, va_K.moved hW.alike hK, hD⟩, hS.F ht⟩) hS.2.2 hd) hP hD h

abbrev w_X10_set (Y : Nat → ClassId) (h_t : Nat) (B_t : Nat → Nat) (B_t_current : Nat → Nat) (t_toldCount : Int32) (t_current_n : Int32) (t_current_cells : Nat → Int32) : va_W := [(h_t, .inr (9, [.ref (B_t 0), .ref (B_t 1), .ref (B_t 2), .ref (B_t 3), .ref (B_t 4), .ref (B_t 5), .ref (B_t 6), .ref (B_t 7), .ref (B_t 8), .ref (B_t 9), .ref (B_t 10), .ref (B_t 11), .ref (B_t 12), .ref (B_t 13), .int t_toldCount])), ((B_t 0), .inr (6, [.ref (B_t_current 0), .int t_current_n])), ((B_t_current 0), .inl (Y 0, 64, .inl t_current_cells))]

set_option maxHeartbeats 4000000 in
set_option maxRecDepth 100000 in
theorem wk_X10_set {p : Program} {l : Launch} {e : Env} {R : Room} {s : State} {m : MethodId} {args : Array Value} {below : List Frame} {meth : Method} {c : Code} {Q : State → Prop} {G : va_G} {Y : Nat → ClassId} {tF : Nat} {A : Nat → Prop} (h_t : Nat) (B_t : Nat → Nat) (B_t_current : Nat → Nat) (t_toldCount : Int32) (t_current_n : Int32) (t_current_cells : Nat → Int32) (x1 : Int32) (x2 : Int32) (x3 : Int32) {K : Int32 → (Nat → Int32) → Prop} (hx : p.tables.exec = Jvm.exec) (hb : c.code = cX10_set) (hml : c.maxLocals = 4) (hown : s.vm.findClass RX10 = some m.cls) (hts : ∀ w ∈ wsX10_set, w.before args s = true) (hK : va_K G vwCl (tyL Y) s) (hE : Ev A tF s) (hA : ∀ q, s.heap.size ≤ q → A q) (hRf : 1 ≤ R.frames) (hRl : 23 ≤ R.locals) (hret : ∀ (r : Int32) (t_current_cells : Nat → Int32) (H : Heap) (locs : List Loc) (ls : Array Slot) (pc : Nat), va_P G vwCl (w_X10_set Y h_t B_t B_t_current t_toldCount t_current_n t_current_cells) H → va_D A (w_X10_set Y h_t B_t B_t_current t_toldCount t_current_n t_current_cells) → va_S A s.heap H locs → zb r → K r t_current_cells → decode cX10_set pc = .ok (.ireturn, 1) → W p l e R s m args below meth c H locs 0 0 Q (F0 m pc ls [.int r])) (hP : va_P G vwCl (w_X10_set Y h_t B_t B_t_current t_toldCount t_current_n t_current_cells) s.heap) (hD : va_D A (w_X10_set Y h_t B_t B_t_current t_toldCount t_current_n t_current_cells)) (h : pX10_set t_current_n t_current_cells x1 x2 x3 K) : W p l e R s m args below meth c s.heap [] 0 0 Q (entryFrame m ([.ref h_t, .int x1, .int x2, .int x3] : List Value).toArray 4) := by
  have inX10 : ∀ w ∈ u_ws RX10 TX10 15, w ∈ wsX10_set := by decide +kernel
  have hf14 := hts (.fieldLink RX10 14 "RackBench" "current" "LRackBench$Table;") (by decide +kernel)
  have hl := lv_entry ([.ref h_t, .int x1, .int x2, .int x3]) (n := 4) (Nat.le_of_ble_eq_true rfl)
  rw [lg_entry_eq]
  generalize (lg_sl ([.ref h_t, .int x1, .int x2, .int x3]) ++ List.replicate (4 - (lg_sl ([.ref h_t, .int x1, .int x2, .int x3])).length) Slot.unset).toArray = ls at hl ⊢
  have hl : lv_has ls 4 [(0, .ref h_t), (1, .int x1), (2, .int x2), (3, .int x3)] := hl
  generalize hH0 : s.heap = H at hP ⊢
  have hS : va_S A s.heap H [] := by rw [← hH0]; exact va_S.rf
  clear hH0
  generalize ([] : List Loc) = locs at hS ⊢
  refine lv_aload_n hx hb dX10_set_0 rfl (lv_at hl 0 rfl) ?_
  refine va_get (D := G) (ci := 9) (v := .ref (B_t 0)) (C := RX10) (T := TX10) (N := 15) hx hb hts inX10 hown hK hP 0 rfl rfl 0 (by decide) hf14 (fun _ h9 => h9) rfl dX10_set_1 ?_
  refine lv_iload_n hx hb dX10_set_4 rfl (lv_at hl 1 rfl) ?_
  refine mc_iV ⟨hx, hb, hml, hown, hts⟩ hK hE hA hP hD hS (c_X7_has l G Y tF H.size (B_t 0) B_t_current t_current_n x1 h) (cwV 1 hts gX10_set_X7_has rfl rfl rfl (by decide +kernel) ⟨Nat.le_trans (by decide) hRf, Nat.le_trans (by decide) hRl⟩) (fun u => (w_X10_set Y h_t B_t B_t_current t_toldCount t_current_n t_current_cells)) [1] [0, 2] [0, 2, 1] rfl rfl rfl rfl (by decide) (fun _ => rfl) rfl 1 6 rfl rfl rfl rfl hl.1 rfl (Nat.le_of_ble_eq_true rfl) dX10_set_5 (fun r5 u H locs h hP hD hS => ?_)
  try dsimp only at h
  have hP : va_P G vwCl (w_X10_set Y h_t B_t B_t_current t_toldCount t_current_n t_current_cells) H := hP
  have hD : va_D A (w_X10_set Y h_t B_t B_t_current t_toldCount t_current_n t_current_cells) := hD
  obtain ⟨ht, hf⟩ := h
  refine lv_if_eq (tgt := 33) hx hb dX10_set_8 (by decide) (fun c9 => ?_) (fun c9 => ?_)
  · have h := ht c9
    refine lv_iconst (v := 0) hx hb dX10_set_33 (by decide) ?_
    obtain ⟨hz, h⟩ := h
    exact hret (0 : Int32) t_current_cells H locs ls _ hP hD hS hz h dX10_set_34
  · have h := hf c9
    refine lv_aload_n hx hb dX10_set_11 rfl (lv_at hl 0 rfl) ?_
    refine va_get (D := G) (ci := 9) (v := .ref (B_t 0)) (C := RX10) (T := TX10) (N := 15) hx hb hts inX10 hown hK hP 0 rfl rfl 0 (by decide) hf14 (fun _ h9 => h9) rfl dX10_set_12 ?_
    refine lv_iload_n hx hb dX10_set_15 rfl (lv_at hl 2 rfl) ?_
    refine mc_iV ⟨hx, hb, hml, hown, hts⟩ hK hE hA hP hD hS (c_X7_has l G Y tF H.size (B_t 0) B_t_current t_current_n x2 h) (cwV 1 hts gX10_set_X7_has rfl rfl rfl (by decide +kernel) ⟨Nat.le_trans (by decide) hRf, Nat.le_trans (by decide) hRl⟩) (fun u => (w_X10_set Y h_t B_t B_t_current t_toldCount t_current_n t_current_cells)) [1] [0, 2] [0, 2, 1] rfl rfl rfl rfl (by decide) (fun _ => rfl) rfl 1 6 rfl rfl rfl rfl hl.1 rfl (Nat.le_of_ble_eq_true rfl) dX10_set_16 (fun r16 u H locs h hP hD hS => ?_)
    try dsimp only at h
    have hP : va_P G vwCl (w_X10_set Y h_t B_t B_t_current t_toldCount t_current_n t_current_cells) H := hP
    have hD : va_D A (w_X10_set Y h_t B_t B_t_current t_toldCount t_current_n t_current_cells) := hD
    obtain ⟨ht, hf⟩ := h
    refine lv_if_eq (tgt := 33) hx hb dX10_set_19 (by decide) (fun c9 => ?_) (fun c9 => ?_)
    · have h := ht c9
      refine lv_iconst (v := 0) hx hb dX10_set_33 (by decide) ?_
      obtain ⟨hz, h⟩ := h
      exact hret (0 : Int32) t_current_cells H locs ls _ hP hD hS hz h dX10_set_34
    · have h := hf c9
      refine lv_aload_n hx hb dX10_set_22 rfl (lv_at hl 0 rfl) ?_
      refine va_get (D := G) (ci := 9) (v := .ref (B_t 0)) (C := RX10) (T := TX10) (N := 15) hx hb hts inX10 hown hK hP 0 rfl rfl 0 (by decide) hf14 (fun _ h9 => h9) rfl dX10_set_23 ?_
      refine lv_iload_n hx hb dX10_set_26 rfl (lv_at hl 3 rfl) ?_
      refine mc_iV ⟨hx, hb, hml, hown, hts⟩ hK hE hA hP hD hS (c_X7_has l G Y tF H.size (B_t 0) B_t_current t_current_n x3 h) (cwV 1 hts gX10_set_X7_has rfl rfl rfl (by decide +kernel) ⟨Nat.le_trans (by decide) hRf, Nat.le_trans (by decide) hRl⟩) (fun u => (w_X10_set Y h_t B_t B_t_current t_toldCount t_current_n t_current_cells)) [1] [0, 2] [0, 2, 1] rfl rfl rfl rfl (by decide) (fun _ => rfl) rfl 1 6 rfl rfl rfl rfl hl.1 rfl (Nat.le_of_ble_eq_true rfl) dX10_set_27 (fun r27 u H locs h hP hD hS => ?_)
      try dsimp only at h
      have hP : va_P G vwCl (w_X10_set Y h_t B_t B_t_current t_toldCount t_current_n t_current_cells) H := hP
      have hD : va_D A (w_X10_set Y h_t B_t B_t_current t_toldCount t_current_n t_current_cells) := hD
      obtain ⟨ht, hf⟩ := h
      refine lv_if_ne (tgt := 35) hx hb dX10_set_30 (by decide) (fun c9 => ?_) (fun c9 => ?_)
      · have h := ht c9
        refine lv_aload_n hx hb dX10_set_35 rfl (lv_at hl 0 rfl) ?_
        refine va_get (D := G) (ci := 9) (v := .ref (B_t 0)) (C := RX10) (T := TX10) (N := 15) hx hb hts inX10 hown hK hP 0 rfl rfl 0 (by decide) hf14 (fun _ h9 => h9) rfl dX10_set_36 ?_
        refine lv_iload_n hx hb dX10_set_39 rfl (lv_at hl 1 rfl) ?_
        refine lv_iload_n hx hb dX10_set_40 rfl (lv_at hl 2 rfl) ?_
        refine lv_iload_n hx hb dX10_set_41 rfl (lv_at hl 3 rfl) ?_
        refine mc_vV ⟨hx, hb, hml, hown, hts⟩ hK hE hA hP hD hS (c_X7_put l G Y tF H.size (B_t 0) B_t_current t_current_n t_current_cells x1 x2 x3 h) (cwV 3 hts gX10_set_X7_put rfl rfl rfl (by decide +kernel) ⟨Nat.le_trans (by decide) hRf, Nat.le_trans (by decide) hRl⟩) (fun u => (w_X10_set Y h_t B_t B_t_current t_toldCount t_current_n u)) [1, 2] [0] [0, 1, 2] rfl rfl rfl rfl (by decide) (fun _ => rfl) rfl 1 6 rfl rfl rfl rfl hl.1 rfl (Nat.le_of_ble_eq_true rfl) dX10_set_42 (fun u H locs h hP hD hS => ?_)
        obtain ⟨t_current_cells_42, rfl⟩ : ∃ z, z = u := ⟨_, rfl⟩
        try dsimp only at h
        have hP : va_P G vwCl (w_X10_set Y h_t B_t B_t_current t_toldCount t_current_n t_current_cells_42) H := hP
        have hD : va_D A (w_X10_set Y h_t B_t B_t_current t_toldCount t_current_n t_current_cells_42) := hD
        refine lv_iconst (v := 1) hx hb dX10_set_45 (by decide) ?_
        obtain ⟨hz, h⟩ := h
        exact hret (1 : Int32) t_current_cells_42 H locs ls _ hP hD hS hz h dX10_set_46
      · have h := hf c9
        refine lv_iconst (v := 0) hx hb dX10_set_33 (by decide) ?_
        obtain ⟨hz, h⟩ := h
        exact hret (0 : Int32) t_current_cells H locs ls _ hP hD hS hz h dX10_set_34

set_option maxHeartbeats 4000000 in
set_option maxRecDepth 100000 in
theorem c_X10_set (l : Launch) (G : va_G) (Y : Nat → ClassId) (tF sz : Nat) (h_t : Nat) (B_t : Nat → Nat) (B_t_current : Nat → Nat) (t_toldCount : Int32) (t_current_n : Int32) (t_current_cells : Nat → Int32) (x1 : Int32) (x2 : Int32) (x3 : Int32) {K : Int32 → (Nat → Int32) → Prop} (h : pX10_set t_current_n t_current_cells x1 x2 x3 K) : Met l yX10_set wsX10_set ({ frames := 1, cells := 0, slots := 0, locals := 23 }) (PcM G Y tF sz (w_X10_set Y h_t B_t B_t_current t_toldCount t_current_n t_current_cells) [.ref h_t, .int x1, .int x2, .int x3]) (va_Qi (fun (r : Int32) (u : (Nat → Int32)) => K r u) (fun u t => BM G Y (va_A (w_X10_set Y h_t B_t B_t_current t_toldCount t_current_n t_current_cells) sz) (w_X10_set Y h_t B_t B_t_current t_toldCount t_current_n u) t) (va_A (w_X10_set Y h_t B_t B_t_current t_toldCount t_current_n t_current_cells) sz)) 0 0 (va_A (w_X10_set Y h_t B_t B_t_current t_toldCount t_current_n t_current_cells) sz) := by
  refine Met.ofW (cc := cX10_set) (maxL := 4) (ret := (some .boolean)) (by decide +kernel) rfl ?_
  intro p e s m args below meth c s₁ B hml hv
  obtain ⟨rfl, hsz, hP, hK, hD0, hE⟩ := hv
  have hts := atoms_spec (ws := wsX10_set) B.pre
  have hown : s.vm.findClass RX10 = some m.cls := findClass_of_methodNamed B.named
  have hlocks := B.notSynchronized
  subst hsz
  have hD := hD0.self (sz := s.heap.size)
  exact wk_X10_set h_t B_t B_t_current t_toldCount t_current_n t_current_cells x1 x2 x3 B.exec B.bytes hml hown hts hK hE (fun q h => Or.inr h) (Nat.le_refl _) (Nat.le_refl _) (fun r t_current_cells H locs ls pc hP hD hS hz hk hd => W.zret (v := r) B.exec B.bytes B.returns hz.n (fun t ht hW => ⟨⟨r, t_current_cells, rfl, hk, by rw [ht]; exact hP, va_K.moved hW.alike hK, hD⟩, hS.F ht⟩) hS.2.2 hd) hP hD h

abbrev w_X10_commonPart (Y : Nat → ClassId) : va_W := []

set_option maxHeartbeats 4000000 in
set_option maxRecDepth 100000 in
theorem wk_X10_commonPart {p : Program} {l : Launch} {e : Env} {R : Room} {s : State} {m : MethodId} {args : Array Value} {below : List Frame} {meth : Method} {c : Code} {Q : State → Prop} {G : va_G} {Y : Nat → ClassId} {tF : Nat} {A : Nat → Prop} (x0 : Int32) (x1 : Int32) {K : Int32 → Prop} (hx : p.tables.exec = Jvm.exec) (hb : c.code = cX10_commonPart) (hml : c.maxLocals = 3) (hown : s.vm.findClass RX10 = some m.cls) (hts : ∀ w ∈ wsX10_commonPart, w.before args s = true) (hK : va_K G vwCl (tyL Y) s) (hE : Ev A tF s) (hA : ∀ q, s.heap.size ≤ q → A q) (hRf : 0 ≤ R.frames) (hRl : 0 ≤ R.locals) (hret : ∀ (r : Int32)  (H : Heap) (locs : List Loc) (ls : Array Slot) (pc : Nat), va_P G vwCl (w_X10_commonPart Y) H → va_D A (w_X10_commonPart Y) → va_S A s.heap H locs → K r → decode cX10_commonPart pc = .ok (.ireturn, 1) → W p l e R s m args below meth c H locs 0 0 Q (F0 m pc ls [.int r])) (hP : va_P G vwCl (w_X10_commonPart Y) s.heap) (hD : va_D A (w_X10_commonPart Y)) (h : pX10_commonPart x0 x1 K) : W p l e R s m args below meth c s.heap [] 0 0 Q (entryFrame m ([.int x0, .int x1] : List Value).toArray 3) := by
  have hl := lv_entry ([.int x0, .int x1]) (n := 3) (Nat.le_of_ble_eq_true rfl)
  rw [lg_entry_eq]
  generalize (lg_sl ([.int x0, .int x1]) ++ List.replicate (3 - (lg_sl ([.int x0, .int x1])).length) Slot.unset).toArray = ls at hl ⊢
  have hl : lv_has ls 3 [(0, .int x0), (1, .int x1)] := hl
  generalize hH0 : s.heap = H at hP ⊢
  have hS : va_S A s.heap H [] := by rw [← hH0]; exact va_S.rf
  clear hH0
  generalize ([] : List Loc) = locs at hS ⊢
  refine lv_iload_n hx hb dX10_commonPart_0 rfl (lv_at hl 1 rfl) ?_
  refine lv_istore_n (lv' := [(2, .int x1), (0, .int x0), (1, .int x1)]) hx hb dX10_commonPart_1 rfl hl (by decide) rfl (fun ls hl => ?_)
  obtain ⟨I2, m2, hI2, hB2⟩ := h
  have L2 : ∀ (x0 : Int32) (x1 : Int32) (I2 : Int32 → Prop) (m2 : Int32 → Nat), (∀ (x2 : Int32), I2 x2 → pX10_commonPart_2 K x0 x1 x2 (fun x2' => I2 x2' ∧ m2 x2' < m2 x2)) → ∀ (n : Nat) (x2 : Int32) (H : Heap) (locs : List Loc) (ls : Array Slot), I2 x2 → m2 x2 < n → va_P G vwCl (w_X10_commonPart Y) H → va_D A (w_X10_commonPart Y) → va_S A s.heap H locs → lv_has ls 3 [(0, .int x0), (1, .int x1), (2, .int x2)] → W p l e R s m args below meth c H locs 0 0 Q (F0 m 2 ls []) := by
    intro x0 x1 I2 m2 hB2 n
    induction n with
    | zero => intro x2 H locs ls _ hm; exact absurd hm (Nat.not_lt_zero _)
    | succ n ih =>
      intro x2 H locs ls hI hm hP hD hS hl
      obtain ⟨R2, h, rec2⟩ : ∃ R2 : Int32 → Prop, pX10_commonPart_2 K x0 x1 x2 R2 ∧ ∀ (x2 : Int32) (H : Heap) (locs : List Loc) (ls : Array Slot), R2 x2 → va_P G vwCl (w_X10_commonPart Y) H → va_D A (w_X10_commonPart Y) → va_S A s.heap H locs → lv_has ls 3 [(0, .int x0), (1, .int x1), (2, .int x2)] → W p l e R s m args below meth c H locs 0 0 Q (F0 m 2 ls []) := ⟨_, hB2 x2 hI, fun x2 H locs ls hh hP hD hS hl => ih x2 H locs ls hh.1 (Nat.lt_of_lt_of_le hh.2 (Nat.le_of_lt_succ hm)) hP hD hS hl⟩
      refine lv_iload_n hx hb dX10_commonPart_2 rfl (lv_at hl 2 rfl) ?_
      refine lv_iconst (v := 1) hx hb dX10_commonPart_3 (by decide) ?_
      obtain ⟨ht, hf⟩ := h
      refine lv_icmp_le (tgt := 27) hx hb dX10_commonPart_4 (by decide) (fun c9 => ?_) (fun c9 => ?_)
      · have h := ht c9
        refine lv_iconst (v := 1) hx hb dX10_commonPart_27 (by decide) ?_
        exact hret (1 : Int32)  H locs ls _ hP hD hS h dX10_commonPart_28
      · have h := hf c9
        refine lv_iload_n hx hb dX10_commonPart_7 rfl (lv_at hl 1 rfl) ?_
        refine lv_iload_n hx hb dX10_commonPart_8 rfl (lv_at hl 2 rfl) ?_
        obtain ⟨hne, h⟩ := h
        refine lv_irem hx hb dX10_commonPart_9 hne ?_
        obtain ⟨ht, hf⟩ := h
        refine lv_if_ne (tgt := 21) hx hb dX10_commonPart_10 (by decide) (fun c9 => ?_) (fun c9 => ?_)
        · have h := ht c9
          refine lv_iinc (v := (x2 + (-1))) (lv' := [(2, .int (x2 + (-1))), (0, .int x0), (1, .int x1)]) hx hb dX10_commonPart_21 hl (k := 2) rfl rfl (by decide) rfl (fun ls hl => ?_)
          refine lv_goto (tgt := 2) hx hb dX10_commonPart_24 (by decide) ?_
          exact rec2 (x2 + (-1)) H locs ls h hP hD hS (lv_sub hl [1, 2, 0] rfl)
        · have h := hf c9
          refine lv_iload_n hx hb dX10_commonPart_13 rfl (lv_at hl 0 rfl) ?_
          refine lv_iload_n hx hb dX10_commonPart_14 rfl (lv_at hl 2 rfl) ?_
          obtain ⟨hne, h⟩ := h
          refine lv_irem hx hb dX10_commonPart_15 hne ?_
          obtain ⟨ht, hf⟩ := h
          refine lv_if_ne (tgt := 21) hx hb dX10_commonPart_16 (by decide) (fun c9 => ?_) (fun c9 => ?_)
          · have h := ht c9
            refine lv_iinc (v := (x2 + (-1))) (lv' := [(2, .int (x2 + (-1))), (0, .int x0), (1, .int x1)]) hx hb dX10_commonPart_21 hl (k := 2) rfl rfl (by decide) rfl (fun ls hl => ?_)
            refine lv_goto (tgt := 2) hx hb dX10_commonPart_24 (by decide) ?_
            exact rec2 (x2 + (-1)) H locs ls h hP hD hS (lv_sub hl [1, 2, 0] rfl)
          · have h := hf c9
            refine lv_iload_n hx hb dX10_commonPart_19 rfl (lv_at hl 2 rfl) ?_
            exact hret x2  H locs ls _ hP hD hS h dX10_commonPart_20
  exact L2 x0 x1 I2 m2 hB2 _ x1 H locs ls hI2 (Nat.lt_succ_self _) hP hD hS (lv_sub hl [1, 2, 0] rfl)

set_option maxHeartbeats 4000000 in
set_option maxRecDepth 100000 in
theorem c_X10_commonPart (l : Launch) (G : va_G) (Y : Nat → ClassId) (tF sz : Nat) (x0 : Int32) (x1 : Int32) {K : Int32 → Prop} (h : pX10_commonPart x0 x1 K) : Met l yX10_commonPart wsX10_commonPart ({ frames := 0, cells := 0, slots := 0, locals := 0 }) (PcM G Y tF sz (w_X10_commonPart Y) [.int x0, .int x1]) (va_Qi (fun (r : Int32) (u : Unit) => K r ) (fun u t => BM G Y (va_A (w_X10_commonPart Y) sz) (w_X10_commonPart Y) t) (va_A (w_X10_commonPart Y) sz)) 0 0 (va_A (w_X10_commonPart Y) sz) := by
  refine Met.ofW (cc := cX10_commonPart) (maxL := 3) (ret := (some .int)) (by decide +kernel) rfl ?_
  intro p e s m args below meth c s₁ B hml hv
  obtain ⟨rfl, hsz, hP, hK, hD0, hE⟩ := hv
  have hts := atoms_spec (ws := wsX10_commonPart) B.pre
  have hown : s.vm.findClass RX10 = some m.cls := findClass_of_methodNamed B.named
  have hlocks := B.notSynchronized
  subst hsz
  have hD := hD0.self (sz := s.heap.size)
  exact wk_X10_commonPart x0 x1 B.exec B.bytes hml hown hts hK hE (fun q h => Or.inr h) (Nat.le_refl _) (Nat.le_refl _) (fun r  H locs ls pc hP hD hS hk hd => W.iret (v := r) B.exec B.bytes B.returns (fun t ht hW => ⟨⟨r, (), rfl, hk, by rw [ht]; exact hP, va_K.moved hW.alike hK, hD⟩, hS.F ht⟩) hS.2.2 hd) hP hD h

abbrev w_X10_line (Y : Nat → ClassId) (h_t : Nat) (B_t : Nat → Nat) (B_t_current : Nat → Nat) (B_t_draft : Nat → Nat) (B_t_twisting : Nat → Nat) (t_toldCount : Int32) (t_current_n : Int32) (t_current_cells : Nat → Int32) (t_draft_n : Int32) (t_draft_cells : Nat → Int32) (t_twisting_modulus : Int32) (t_twisting_values : Nat → Int32) : va_W := [(h_t, .inr (9, [.ref (B_t 0), .ref (B_t 1), .ref (B_t 2), .ref (B_t 3), .ref (B_t 4), .ref (B_t 5), .ref (B_t 6), .ref (B_t 7), .ref (B_t 8), .ref (B_t 9), .ref (B_t 10), .ref (B_t 11), .ref (B_t 12), .ref (B_t 13), .int t_toldCount])), ((B_t 0), .inr (6, [.ref (B_t_current 0), .int t_current_n])), ((B_t_current 0), .inl (Y 0, 64, .inl t_current_cells)), ((B_t 1), .inr (6, [.ref (B_t_draft 0), .int t_draft_n])), ((B_t_draft 0), .inl (Y 0, 64, .inl t_draft_cells)), ((B_t 4), .inr (8, [.ref (B_t_twisting 0), .int t_twisting_modulus])), ((B_t_twisting 0), .inl (Y 0, 64, .inl t_twisting_values))]

set_option maxHeartbeats 4000000 in
set_option maxRecDepth 100000 in
theorem wk_X10_line {p : Program} {l : Launch} {e : Env} {R : Room} {s : State} {m : MethodId} {args : Array Value} {below : List Frame} {meth : Method} {c : Code} {Q : State → Prop} {G : va_G} {Y : Nat → ClassId} {tF : Nat} {A : Nat → Prop} (h_t : Nat) (B_t : Nat → Nat) (B_t_current : Nat → Nat) (B_t_draft : Nat → Nat) (B_t_twisting : Nat → Nat) (t_toldCount : Int32) (t_current_n : Int32) (t_current_cells : Nat → Int32) (t_draft_n : Int32) (t_draft_cells : Nat → Int32) (t_twisting_modulus : Int32) (t_twisting_values : Nat → Int32) (x1 : Int32) (x2 : Int32) {K : Int32 → Int32 → (Nat → Int32) → Int32 → (Nat → Int32) → (Nat → Int32) → Prop} (hx : p.tables.exec = Jvm.exec) (hb : c.code = cX10_line) (hml : c.maxLocals = 5) (hown : s.vm.findClass RX10 = some m.cls) (hts : ∀ w ∈ wsX10_line, w.before args s = true) (hK : va_K G vwCl (tyL Y) s) (hE : Ev A tF s) (hA : ∀ q, s.heap.size ≤ q → A q) (hRf : 3 ≤ R.frames) (hRl : 105 ≤ R.locals) (hret : ∀ (r : Int32) (t_current_n : Int32) (t_current_cells : Nat → Int32) (t_draft_n : Int32) (t_draft_cells : Nat → Int32) (t_twisting_values : Nat → Int32) (H : Heap) (locs : List Loc) (ls : Array Slot) (pc : Nat), va_P G vwCl (w_X10_line Y h_t B_t B_t_current B_t_draft B_t_twisting t_toldCount t_current_n t_current_cells t_draft_n t_draft_cells t_twisting_modulus t_twisting_values) H → va_D A (w_X10_line Y h_t B_t B_t_current B_t_draft B_t_twisting t_toldCount t_current_n t_current_cells t_draft_n t_draft_cells t_twisting_modulus t_twisting_values) → va_S A s.heap H locs → zb r → K r t_current_n t_current_cells t_draft_n t_draft_cells t_twisting_values → decode cX10_line pc = .ok (.ireturn, 1) → W p l e R s m args below meth c H locs 0 0 Q (F0 m pc ls [.int r])) (hP : va_P G vwCl (w_X10_line Y h_t B_t B_t_current B_t_draft B_t_twisting t_toldCount t_current_n t_current_cells t_draft_n t_draft_cells t_twisting_modulus t_twisting_values) s.heap) (hD : va_D A (w_X10_line Y h_t B_t B_t_current B_t_draft B_t_twisting t_toldCount t_current_n t_current_cells t_draft_n t_draft_cells t_twisting_modulus t_twisting_values)) (h : pX10_line t_current_n t_current_cells t_draft_n t_draft_cells t_twisting_values x1 x2 K) : W p l e R s m args below meth c s.heap [] 0 0 Q (entryFrame m ([.ref h_t, .int x1, .int x2] : List Value).toArray 5) := by
  have inX10 : ∀ w ∈ u_ws RX10 TX10 15, w ∈ wsX10_line := by decide +kernel
  have inX7 : ∀ w ∈ u_ws RX7 TX7 2, w ∈ wsX10_line := by decide +kernel
  have hf18 := hts (.fieldLink RX10 18 "RackBench" "draft" "LRackBench$Table;") (by decide +kernel)
  have hl := lv_entry ([.ref h_t, .int x1, .int x2]) (n := 5) (Nat.le_of_ble_eq_true rfl)
  rw [lg_entry_eq]
  generalize (lg_sl ([.ref h_t, .int x1, .int x2]) ++ List.replicate (5 - (lg_sl ([.ref h_t, .int x1, .int x2])).length) Slot.unset).toArray = ls at hl ⊢
  have hl : lv_has ls 5 [(0, .ref h_t), (1, .int x1), (2, .int x2)] := hl
  generalize hH0 : s.heap = H at hP ⊢
  have hS : va_S A s.heap H [] := by rw [← hH0]; exact va_S.rf
  clear hH0
  generalize ([] : List Loc) = locs at hS ⊢
  refine lv_iload_n hx hb dX10_line_0 rfl (lv_at hl 1 rfl) ?_
  refine mc_iS ⟨hx, hb, hml, hown, hts⟩ hK hE hA hP hD hS (c_X10_isSize l G Y tF H.size x1 h) (va_cwS 1 hts gX10_line_X10_isSize rfl rfl rfl (by decide +kernel) ⟨Nat.le_trans (by decide) hRf, Nat.le_trans (by decide) hRl⟩) (fun u => (w_X10_line Y h_t B_t B_t_current B_t_draft B_t_twisting t_toldCount t_current_n t_current_cells t_draft_n t_draft_cells t_twisting_modulus t_twisting_values)) [] [0, 1, 2, 3, 4, 5, 6] [0, 1, 2, 3, 4, 5, 6] rfl rfl rfl rfl (by decide) (fun _ => rfl) rfl rfl hl.1 rfl (Nat.le_of_ble_eq_true rfl) dX10_line_1 (fun r1 u H locs h hP hD hS => ?_)
  try dsimp only at h
  have hP : va_P G vwCl (w_X10_line Y h_t B_t B_t_current B_t_draft B_t_twisting t_toldCount t_current_n t_current_cells t_draft_n t_draft_cells t_twisting_modulus t_twisting_values) H := hP
  have hD : va_D A (w_X10_line Y h_t B_t B_t_current B_t_draft B_t_twisting t_toldCount t_current_n t_current_cells t_draft_n t_draft_cells t_twisting_modulus t_twisting_values) := hD
  obtain ⟨ht, hf⟩ := h
  refine lv_if_eq (tgt := 25) hx hb dX10_line_4 (by decide) (fun c9 => ?_) (fun c9 => ?_)
  · have h := ht c9
    refine lv_iconst (v := 0) hx hb dX10_line_25 (by decide) ?_
    obtain ⟨hz, h⟩ := h
    exact hret (0 : Int32) t_current_n t_current_cells t_draft_n t_draft_cells t_twisting_values H locs ls _ hP hD hS hz h dX10_line_26
  · have h := hf c9
    refine lv_iload_n hx hb dX10_line_7 rfl (lv_at hl 2 rfl) ?_
    obtain ⟨ht, hf⟩ := h
    refine lv_if_lt (tgt := 25) hx hb dX10_line_8 (by decide) (fun c9 => ?_) (fun c9 => ?_)
    · have h := ht c9
      refine lv_iconst (v := 0) hx hb dX10_line_25 (by decide) ?_
      obtain ⟨hz, h⟩ := h
      exact hret (0 : Int32) t_current_n t_current_cells t_draft_n t_draft_cells t_twisting_values H locs ls _ hP hD hS hz h dX10_line_26
    · have h := hf c9
      refine lv_iload_n hx hb dX10_line_11 rfl (lv_at hl 2 rfl) ?_
      refine lv_iload_n hx hb dX10_line_12 rfl (lv_at hl 1 rfl) ?_
      obtain ⟨ht, hf⟩ := h
      refine lv_icmp_ge (tgt := 25) hx hb dX10_line_13 (by decide) (fun c9 => ?_) (fun c9 => ?_)
      · have h := ht c9
        refine lv_iconst (v := 0) hx hb dX10_line_25 (by decide) ?_
        obtain ⟨hz, h⟩ := h
        exact hret (0 : Int32) t_current_n t_current_cells t_draft_n t_draft_cells t_twisting_values H locs ls _ hP hD hS hz h dX10_line_26
      · have h := hf c9
        refine lv_iload_n hx hb dX10_line_16 rfl (lv_at hl 2 rfl) ?_
        refine lv_iload_n hx hb dX10_line_17 rfl (lv_at hl 1 rfl) ?_
        refine mc_iS ⟨hx, hb, hml, hown, hts⟩ hK hE hA hP hD hS (c_X10_commonPart l G Y tF H.size x2 x1 h) (va_cwS 2 hts gX10_line_X10_commonPart rfl rfl rfl (by decide +kernel) ⟨Nat.le_trans (by decide) hRf, Nat.le_trans (by decide) hRl⟩) (fun u => (w_X10_line Y h_t B_t B_t_current B_t_draft B_t_twisting t_toldCount t_current_n t_current_cells t_draft_n t_draft_cells t_twisting_modulus t_twisting_values)) [] [0, 1, 2, 3, 4, 5, 6] [0, 1, 2, 3, 4, 5, 6] rfl rfl rfl rfl (by decide) (fun _ => rfl) rfl rfl hl.1 rfl (Nat.le_of_ble_eq_true rfl) dX10_line_18 (fun r18 u H locs h hP hD hS => ?_)
        try dsimp only at h
        have hP : va_P G vwCl (w_X10_line Y h_t B_t B_t_current B_t_draft B_t_twisting t_toldCount t_current_n t_current_cells t_draft_n t_draft_cells t_twisting_modulus t_twisting_values) H := hP
        have hD : va_D A (w_X10_line Y h_t B_t B_t_current B_t_draft B_t_twisting t_toldCount t_current_n t_current_cells t_draft_n t_draft_cells t_twisting_modulus t_twisting_values) := hD
        refine lv_iconst (v := 1) hx hb dX10_line_21 (by decide) ?_
        obtain ⟨ht, hf⟩ := h
        refine lv_icmp_le (tgt := 27) hx hb dX10_line_22 (by decide) (fun c9 => ?_) (fun c9 => ?_)
        · have h := ht c9
          refine lv_aload_n hx hb dX10_line_27 rfl (lv_at hl 0 rfl) ?_
          refine va_get (D := G) (ci := 9) (v := .ref (B_t 1)) (C := RX10) (T := TX10) (N := 15) hx hb hts inX10 hown hK hP 0 rfl rfl 1 (by decide) hf18 (fun _ h9 => h9) rfl dX10_line_28 ?_
          refine lv_iload_n hx hb dX10_line_31 rfl (lv_at hl 1 rfl) ?_
          refine va_putN (D := G) (ci := 6) (v := .int x1) (ty := .int) (C := RX7) (T := TX7) (N := 2) hx hb hts inX7 tyX7 tyX7_ok nmX7 hown hK hP hD hS 3 rfl rfl 1 (by decide) (hE.nest args 0 _ rfl) (fun _ h9 => h9) rfl (by decide +kernel) rfl rfl (Nat.le_of_ble_eq_true rfl) dX10_line_32 (fun H locs hP hD hS => ?_)
          have hP : va_P G vwCl (w_X10_line Y h_t B_t B_t_current B_t_draft B_t_twisting t_toldCount t_current_n t_current_cells x1 t_draft_cells t_twisting_modulus t_twisting_values) H := hP
          have hD : va_D A (w_X10_line Y h_t B_t B_t_current B_t_draft B_t_twisting t_toldCount t_current_n t_current_cells x1 t_draft_cells t_twisting_modulus t_twisting_values) := hD
          refine lv_iconst (v := 0) hx hb dX10_line_35 (by decide) ?_
          refine lv_istore_n (lv' := [(3, .int (0 : Int32)), (0, .ref h_t), (1, .int x1), (2, .int x2)]) hx hb dX10_line_36 rfl hl (by decide) rfl (fun ls hl => ?_)
          obtain ⟨I37, m37, hI37, hB37⟩ := h
          have L37 : ∀ (x1 : Int32) (x2 : Int32) (t_current_n : Int32) (t_current_cells : Nat → Int32) (t_draft_n : Int32) (t_twisting_values : Nat → Int32) (I37 : Int32 → (Nat → Int32) → Prop) (m37 : Int32 → (Nat → Int32) → Nat), (∀ (x3 : Int32) (t_draft_cells : Nat → Int32), I37 x3 t_draft_cells → pX10_line_37 K x1 x2 t_current_n t_current_cells t_draft_n t_twisting_values x3 t_draft_cells (fun x3' t_draft_cells' => I37 x3' t_draft_cells' ∧ m37 x3' t_draft_cells' < m37 x3 t_draft_cells)) → ∀ (n : Nat) (x3 : Int32) (t_draft_cells : Nat → Int32) (H : Heap) (locs : List Loc) (ls : Array Slot), I37 x3 t_draft_cells → m37 x3 t_draft_cells < n → va_P G vwCl (w_X10_line Y h_t B_t B_t_current B_t_draft B_t_twisting t_toldCount t_current_n t_current_cells t_draft_n t_draft_cells t_twisting_modulus t_twisting_values) H → va_D A (w_X10_line Y h_t B_t B_t_current B_t_draft B_t_twisting t_toldCount t_current_n t_current_cells t_draft_n t_draft_cells t_twisting_modulus t_twisting_values) → va_S A s.heap H locs → lv_has ls 5 [(0, .ref h_t), (1, .int x1), (2, .int x2), (3, .int x3)] → W p l e R s m args below meth c H locs 0 0 Q (F0 m 37 ls []) := by
            intro x1 x2 t_current_n t_current_cells t_draft_n t_twisting_values I37 m37 hB37 n
            induction n with
            | zero => intro x3 t_draft_cells H locs ls _ hm; exact absurd hm (Nat.not_lt_zero _)
            | succ n ih =>
              intro x3 t_draft_cells H locs ls hI hm hP hD hS hl
              obtain ⟨R37, h, rec37⟩ : ∃ R37 : Int32 → (Nat → Int32) → Prop, pX10_line_37 K x1 x2 t_current_n t_current_cells t_draft_n t_twisting_values x3 t_draft_cells R37 ∧ ∀ (x3 : Int32) (t_draft_cells : Nat → Int32) (H : Heap) (locs : List Loc) (ls : Array Slot), R37 x3 t_draft_cells → va_P G vwCl (w_X10_line Y h_t B_t B_t_current B_t_draft B_t_twisting t_toldCount t_current_n t_current_cells t_draft_n t_draft_cells t_twisting_modulus t_twisting_values) H → va_D A (w_X10_line Y h_t B_t B_t_current B_t_draft B_t_twisting t_toldCount t_current_n t_current_cells t_draft_n t_draft_cells t_twisting_modulus t_twisting_values) → va_S A s.heap H locs → lv_has ls 5 [(0, .ref h_t), (1, .int x1), (2, .int x2), (3, .int x3)] → W p l e R s m args below meth c H locs 0 0 Q (F0 m 37 ls []) := ⟨_, hB37 x3 t_draft_cells hI, fun x3 t_draft_cells H locs ls hh hP hD hS hl => ih x3 t_draft_cells H locs ls hh.1 (Nat.lt_of_lt_of_le hh.2 (Nat.le_of_lt_succ hm)) hP hD hS hl⟩
              refine lv_iload_n hx hb dX10_line_37 rfl (lv_at hl 3 rfl) ?_
              refine lv_iload_n hx hb dX10_line_38 rfl (lv_at hl 1 rfl) ?_
              obtain ⟨ht, hf⟩ := h
              refine lv_icmp_ge (tgt := 87) hx hb dX10_line_39 (by decide) (fun c9 => ?_) (fun c9 => ?_)
              · have h := ht c9
                refine lv_aload_n hx hb dX10_line_87 rfl (lv_at hl 0 rfl) ?_
                refine mc_iV ⟨hx, hb, hml, hown, hts⟩ hK hE hA hP hD hS (c_X10_adoptDraft l G Y tF H.size h_t B_t B_t_current B_t_draft B_t_twisting t_toldCount t_current_n t_current_cells t_draft_n t_draft_cells t_twisting_modulus t_twisting_values h) (cwV 0 hts gX10_line_X10_adoptDraft rfl rfl rfl (by decide +kernel) ⟨Nat.le_trans (by decide) hRf, Nat.le_trans (by decide) hRl⟩) (fun u => (w_X10_line Y h_t B_t B_t_current B_t_draft B_t_twisting t_toldCount u.1 u.2.1 t_draft_n t_draft_cells t_twisting_modulus u.2.2)) [0, 1, 2, 3, 4, 5, 6] [] [0, 1, 2, 3, 4, 5, 6] rfl rfl rfl rfl (by decide) (fun _ => rfl) rfl 0 9 rfl rfl rfl rfl hl.1 rfl (Nat.le_of_ble_eq_true rfl) dX10_line_88 (fun r88 u H locs h hP hD hS => ?_)
                obtain ⟨t_current_n_88, t_current_cells_88, t_twisting_values_88⟩ := u
                try dsimp only at h
                have hP : va_P G vwCl (w_X10_line Y h_t B_t B_t_current B_t_draft B_t_twisting t_toldCount t_current_n_88 t_current_cells_88 t_draft_n t_draft_cells t_twisting_modulus t_twisting_values_88) H := hP
                have hD : va_D A (w_X10_line Y h_t B_t B_t_current B_t_draft B_t_twisting t_toldCount t_current_n_88 t_current_cells_88 t_draft_n t_draft_cells t_twisting_modulus t_twisting_values_88) := hD
                refine lv_pop hx hb dX10_line_91 rfl ?_
                refine lv_iconst (v := 1) hx hb dX10_line_92 (by decide) ?_
                obtain ⟨hz, h⟩ := h
                exact hret (1 : Int32) t_current_n_88 t_current_cells_88 t_draft_n t_draft_cells t_twisting_values_88 H locs ls _ hP hD hS hz h dX10_line_93
              · have h := hf c9
                refine lv_iconst (v := 0) hx hb dX10_line_42 (by decide) ?_
                refine lv_istore (lv' := [(4, .int (0 : Int32)), (0, .ref h_t), (1, .int x1), (2, .int x2), (3, .int x3)]) hx hb dX10_line_43 hl (by decide) rfl (fun ls hl => ?_)
                obtain ⟨I45, m45, hI45, hB45⟩ := h
                have L45 : ∀ (x3 : Int32) (I45 : Int32 → (Nat → Int32) → Prop) (m45 : Int32 → (Nat → Int32) → Nat), (∀ (x4 : Int32) (t_draft_cells : Nat → Int32), I45 x4 t_draft_cells → pX10_line_45 R37 K x1 x2 t_current_n t_current_cells t_draft_n t_twisting_values x3 x4 t_draft_cells (fun x4' t_draft_cells' => I45 x4' t_draft_cells' ∧ m45 x4' t_draft_cells' < m45 x4 t_draft_cells)) → ∀ (n : Nat) (x4 : Int32) (t_draft_cells : Nat → Int32) (H : Heap) (locs : List Loc) (ls : Array Slot), I45 x4 t_draft_cells → m45 x4 t_draft_cells < n → va_P G vwCl (w_X10_line Y h_t B_t B_t_current B_t_draft B_t_twisting t_toldCount t_current_n t_current_cells t_draft_n t_draft_cells t_twisting_modulus t_twisting_values) H → va_D A (w_X10_line Y h_t B_t B_t_current B_t_draft B_t_twisting t_toldCount t_current_n t_current_cells t_draft_n t_draft_cells t_twisting_modulus t_twisting_values) → va_S A s.heap H locs → lv_has ls 5 [(0, .ref h_t), (1, .int x1), (2, .int x2), (3, .int x3), (4, .int x4)] → W p l e R s m args below meth c H locs 0 0 Q (F0 m 45 ls []) := by
                  intro x3 I45 m45 hB45 n
                  induction n with
                  | zero => intro x4 t_draft_cells H locs ls _ hm; exact absurd hm (Nat.not_lt_zero _)
                  | succ n ih =>
                    intro x4 t_draft_cells H locs ls hI hm hP hD hS hl
                    obtain ⟨R45, h, rec45⟩ : ∃ R45 : Int32 → (Nat → Int32) → Prop, pX10_line_45 R37 K x1 x2 t_current_n t_current_cells t_draft_n t_twisting_values x3 x4 t_draft_cells R45 ∧ ∀ (x4 : Int32) (t_draft_cells : Nat → Int32) (H : Heap) (locs : List Loc) (ls : Array Slot), R45 x4 t_draft_cells → va_P G vwCl (w_X10_line Y h_t B_t B_t_current B_t_draft B_t_twisting t_toldCount t_current_n t_current_cells t_draft_n t_draft_cells t_twisting_modulus t_twisting_values) H → va_D A (w_X10_line Y h_t B_t B_t_current B_t_draft B_t_twisting t_toldCount t_current_n t_current_cells t_draft_n t_draft_cells t_twisting_modulus t_twisting_values) → va_S A s.heap H locs → lv_has ls 5 [(0, .ref h_t), (1, .int x1), (2, .int x2), (3, .int x3), (4, .int x4)] → W p l e R s m args below meth c H locs 0 0 Q (F0 m 45 ls []) := ⟨_, hB45 x4 t_draft_cells hI, fun x4 t_draft_cells H locs ls hh hP hD hS hl => ih x4 t_draft_cells H locs ls hh.1 (Nat.lt_of_lt_of_le hh.2 (Nat.le_of_lt_succ hm)) hP hD hS hl⟩
                    refine lv_iload hx hb dX10_line_45 (lv_at hl 4 rfl) ?_
                    refine lv_iload_n hx hb dX10_line_47 rfl (lv_at hl 1 rfl) ?_
                    obtain ⟨ht, hf⟩ := h
                    refine lv_icmp_ge (tgt := 81) hx hb dX10_line_48 (by decide) (fun c9 => ?_) (fun c9 => ?_)
                    · have h := ht c9
                      refine lv_iinc (v := (x3 + 1)) (lv' := [(3, .int (x3 + 1)), (0, .ref h_t), (1, .int x1), (2, .int x2), (4, .int x4)]) hx hb dX10_line_81 hl (k := 3) rfl rfl (by decide) rfl (fun ls hl => ?_)
                      refine lv_goto (tgt := 37) hx hb dX10_line_84 (by decide) ?_
                      exact rec37 (x3 + 1) t_draft_cells H locs ls h hP hD hS (lv_sub hl [1, 2, 3, 0] rfl)
                    · have h := hf c9
                      refine lv_aload_n hx hb dX10_line_51 rfl (lv_at hl 0 rfl) ?_
                      refine va_get (D := G) (ci := 9) (v := .ref (B_t 1)) (C := RX10) (T := TX10) (N := 15) hx hb hts inX10 hown hK hP 0 rfl rfl 1 (by decide) hf18 (fun _ h9 => h9) rfl dX10_line_52 ?_
                      refine lv_iload_n hx hb dX10_line_55 rfl (lv_at hl 3 rfl) ?_
                      refine lv_iload hx hb dX10_line_56 (lv_at hl 4 rfl) ?_
                      refine lv_iconst (v := 1) hx hb dX10_line_58 (by decide) ?_
                      refine lv_iload_n hx hb dX10_line_59 rfl (lv_at hl 2 rfl) ?_
                      refine lv_isub hx hb dX10_line_60 ?_
                      refine lv_iload_n hx hb dX10_line_61 rfl (lv_at hl 3 rfl) ?_
                      refine lv_imul hx hb dX10_line_62 ?_
                      refine lv_iload_n hx hb dX10_line_63 rfl (lv_at hl 2 rfl) ?_
                      refine lv_iload hx hb dX10_line_64 (lv_at hl 4 rfl) ?_
                      refine lv_imul hx hb dX10_line_66 ?_
                      refine lv_iadd hx hb dX10_line_67 ?_
                      refine lv_iload_n hx hb dX10_line_68 rfl (lv_at hl 1 rfl) ?_
                      refine mc_iS ⟨hx, hb, hml, hown, hts⟩ hK hE hA hP hD hS (c_J9_floorMod_7cf53 l G Y tF H.size ((((1 : Int32) - x2) * x3) + (x2 * x4)) x1 h) (va_cwS 2 hts gX10_line_J9_floorMod_7cf53 rfl rfl rfl (by decide +kernel) ⟨Nat.le_trans (by decide) hRf, Nat.le_trans (by decide) hRl⟩) (fun u => (w_X10_line Y h_t B_t B_t_current B_t_draft B_t_twisting t_toldCount t_current_n t_current_cells t_draft_n t_draft_cells t_twisting_modulus t_twisting_values)) [] [0, 1, 2, 3, 4, 5, 6] [0, 1, 2, 3, 4, 5, 6] rfl rfl rfl rfl (by decide) (fun _ => rfl) rfl rfl hl.1 rfl (Nat.le_of_ble_eq_true rfl) dX10_line_69 (fun r69 u H locs h hP hD hS => ?_)
                      try dsimp only at h
                      have hP : va_P G vwCl (w_X10_line Y h_t B_t B_t_current B_t_draft B_t_twisting t_toldCount t_current_n t_current_cells t_draft_n t_draft_cells t_twisting_modulus t_twisting_values) H := hP
                      have hD : va_D A (w_X10_line Y h_t B_t B_t_current B_t_draft B_t_twisting t_toldCount t_current_n t_current_cells t_draft_n t_draft_cells t_twisting_modulus t_twisting_values) := hD
                      refine mc_vV ⟨hx, hb, hml, hown, hts⟩ hK hE hA hP hD hS (c_X7_put l G Y tF H.size (B_t 1) B_t_draft t_draft_n t_draft_cells x3 x4 r69 h) (cwV 3 hts gX10_line_X7_put rfl rfl rfl (by decide +kernel) ⟨Nat.le_trans (by decide) hRf, Nat.le_trans (by decide) hRl⟩) (fun u => (w_X10_line Y h_t B_t B_t_current B_t_draft B_t_twisting t_toldCount t_current_n t_current_cells t_draft_n u t_twisting_modulus t_twisting_values)) [3, 4] [0, 1, 2, 5, 6] [0, 1, 2, 5, 6, 3, 4] rfl rfl rfl rfl (by decide) (fun _ => rfl) rfl 3 6 rfl rfl rfl rfl hl.1 rfl (Nat.le_of_ble_eq_true rfl) dX10_line_72 (fun u H locs h hP hD hS => ?_)
                      obtain ⟨t_draft_cells_72, rfl⟩ : ∃ z, z = u := ⟨_, rfl⟩
                      try dsimp only at h
                      have hP : va_P G vwCl (w_X10_line Y h_t B_t B_t_current B_t_draft B_t_twisting t_toldCount t_current_n t_current_cells t_draft_n t_draft_cells_72 t_twisting_modulus t_twisting_values) H := hP
                      have hD : va_D A (w_X10_line Y h_t B_t B_t_current B_t_draft B_t_twisting t_toldCount t_current_n t_current_cells t_draft_n t_draft_cells_72 t_twisting_modulus t_twisting_values) := hD
                      refine lv_iinc (v := (x4 + 1)) (lv' := [(4, .int (x4 + 1)), (0, .ref h_t), (1, .int x1), (2, .int x2), (3, .int x3)]) hx hb dX10_line_75 hl (k := 4) rfl rfl (by decide) rfl (fun ls hl => ?_)
                      refine lv_goto (tgt := 45) hx hb dX10_line_78 (by decide) ?_
                      exact rec45 (x4 + 1) t_draft_cells_72 H locs ls h hP hD hS (lv_sub hl [1, 2, 3, 4, 0] rfl)
                exact L45 x3 I45 m45 hB45 _ (0 : Int32) t_draft_cells H locs ls hI45 (Nat.lt_succ_self _) hP hD hS (lv_sub hl [1, 2, 3, 4, 0] rfl)
          exact L37 x1 x2 t_current_n t_current_cells x1 t_twisting_values I37 m37 hB37 _ (0 : Int32) t_draft_cells H locs ls hI37 (Nat.lt_succ_self _) hP hD hS (lv_sub hl [1, 2, 3, 0] rfl)
        · have h := hf c9
          refine lv_iconst (v := 0) hx hb dX10_line_25 (by decide) ?_
          obtain ⟨hz, h⟩ := h
          exact hret (0 : Int32) t_current_n t_current_cells t_draft_n t_draft_cells t_twisting_values H locs ls _ hP hD hS hz h dX10_line_26

set_option maxHeartbeats 4000000 in
set_option maxRecDepth 100000 in
theorem c_X10_line (l : Launch) (G : va_G) (Y : Nat → ClassId) (tF sz : Nat) (h_t : Nat) (B_t : Nat → Nat) (B_t_current : Nat → Nat) (B_t_draft : Nat → Nat) (B_t_twisting : Nat → Nat) (t_toldCount : Int32) (t_current_n : Int32) (t_current_cells : Nat → Int32) (t_draft_n : Int32) (t_draft_cells : Nat → Int32) (t_twisting_modulus : Int32) (t_twisting_values : Nat → Int32) (x1 : Int32) (x2 : Int32) {K : Int32 → Int32 → (Nat → Int32) → Int32 → (Nat → Int32) → (Nat → Int32) → Prop} (h : pX10_line t_current_n t_current_cells t_draft_n t_draft_cells t_twisting_values x1 x2 K) : Met l yX10_line wsX10_line ({ frames := 3, cells := 0, slots := 0, locals := 105 }) (PcM G Y tF sz (w_X10_line Y h_t B_t B_t_current B_t_draft B_t_twisting t_toldCount t_current_n t_current_cells t_draft_n t_draft_cells t_twisting_modulus t_twisting_values) [.ref h_t, .int x1, .int x2]) (va_Qi (fun (r : Int32) (u : Int32 × (Nat → Int32) × Int32 × (Nat → Int32) × (Nat → Int32)) => K r u.1 u.2.1 u.2.2.1 u.2.2.2.1 u.2.2.2.2) (fun u t => BM G Y (va_A (w_X10_line Y h_t B_t B_t_current B_t_draft B_t_twisting t_toldCount t_current_n t_current_cells t_draft_n t_draft_cells t_twisting_modulus t_twisting_values) sz) (w_X10_line Y h_t B_t B_t_current B_t_draft B_t_twisting t_toldCount u.1 u.2.1 u.2.2.1 u.2.2.2.1 t_twisting_modulus u.2.2.2.2) t) (va_A (w_X10_line Y h_t B_t B_t_current B_t_draft B_t_twisting t_toldCount t_current_n t_current_cells t_draft_n t_draft_cells t_twisting_modulus t_twisting_values) sz)) 0 0 (va_A (w_X10_line Y h_t B_t B_t_current B_t_draft B_t_twisting t_toldCount t_current_n t_current_cells t_draft_n t_draft_cells t_twisting_modulus t_twisting_values) sz) := by
  refine Met.ofW (cc := cX10_line) (maxL := 5) (ret := (some .boolean)) (by decide +kernel) rfl ?_
  intro p e s m args below meth c s₁ B hml hv
  obtain ⟨rfl, hsz, hP, hK, hD0, hE⟩ := hv
  have hts := atoms_spec (ws := wsX10_line) B.pre
  have hown : s.vm.findClass RX10 = some m.cls := findClass_of_methodNamed B.named
  have hlocks := B.notSynchronized
  subst hsz
  have hD := hD0.self (sz := s.heap.size)
  exact wk_X10_line h_t B_t B_t_current B_t_draft B_t_twisting t_toldCount t_current_n t_current_cells t_draft_n t_draft_cells t_twisting_modulus t_twisting_values x1 x2 B.exec B.bytes hml hown hts hK hE (fun q h => Or.inr h) (Nat.le_refl _) (Nat.le_refl _) (fun r t_current_n t_current_cells t_draft_n t_draft_cells t_twisting_values H locs ls pc hP hD hS hz hk hd => W.zret (v := r) B.exec B.bytes B.returns hz.n (fun t ht hW => ⟨⟨r, (t_current_n, t_current_cells, t_draft_n, t_draft_cells, t_twisting_values), rfl, hk, by rw [ht]; exact hP, va_K.moved hW.alike hK, hD⟩, hS.F ht⟩) hS.2.2 hd) hP hD h

abbrev w_X10_cycleSum (Y : Nat → ClassId) : va_W := []

set_option maxHeartbeats 4000000 in
set_option maxRecDepth 100000 in
theorem wk_X10_cycleSum {p : Program} {l : Launch} {e : Env} {R : Room} {s : State} {m : MethodId} {args : Array Value} {below : List Frame} {meth : Method} {c : Code} {Q : State → Prop} {G : va_G} {Y : Nat → ClassId} {tF : Nat} {A : Nat → Prop} (x0 : Int32) {K : Int32 → Prop} (hx : p.tables.exec = Jvm.exec) (hb : c.code = cX10_cycleSum) (hml : c.maxLocals = 5) (hown : s.vm.findClass RX10 = some m.cls) (hts : ∀ w ∈ wsX10_cycleSum, w.before args s = true) (hK : va_K G vwCl (tyL Y) s) (hE : Ev A tF s) (hA : ∀ q, s.heap.size ≤ q → A q) (hRf : 1 ≤ R.frames) (hRl : 21 ≤ R.locals) (hret : ∀ (r : Int32)  (H : Heap) (locs : List Loc) (ls : Array Slot) (pc : Nat), va_P G vwCl (w_X10_cycleSum Y) H → va_D A (w_X10_cycleSum Y) → va_S A s.heap H locs → K r → decode cX10_cycleSum pc = .ok (.ireturn, 1) → W p l e R s m args below meth c H locs 0 0 Q (F0 m pc ls [.int r])) (hP : va_P G vwCl (w_X10_cycleSum Y) s.heap) (hD : va_D A (w_X10_cycleSum Y)) (h : pX10_cycleSum x0 K) : W p l e R s m args below meth c s.heap [] 0 0 Q (entryFrame m ([.int x0] : List Value).toArray 5) := by
  have hl := lv_entry ([.int x0]) (n := 5) (Nat.le_of_ble_eq_true rfl)
  rw [lg_entry_eq]
  generalize (lg_sl ([.int x0]) ++ List.replicate (5 - (lg_sl ([.int x0])).length) Slot.unset).toArray = ls at hl ⊢
  have hl : lv_has ls 5 [(0, .int x0)] := hl
  generalize hH0 : s.heap = H at hP ⊢
  have hS : va_S A s.heap H [] := by rw [← hH0]; exact va_S.rf
  clear hH0
  generalize ([] : List Loc) = locs at hS ⊢
  refine lv_iconst (v := 0) hx hb dX10_cycleSum_0 (by decide) ?_
  refine lv_istore_n (lv' := [(1, .int (0 : Int32)), (0, .int x0)]) hx hb dX10_cycleSum_1 rfl hl (by decide) rfl (fun ls hl => ?_)
  refine lv_iconst (v := 0) hx hb dX10_cycleSum_2 (by decide) ?_
  refine lv_istore_n (lv' := [(2, .int (0 : Int32)), (1, .int (0 : Int32)), (0, .int x0)]) hx hb dX10_cycleSum_3 rfl hl (by decide) rfl (fun ls hl => ?_)
  obtain ⟨I4, m4, hI4, hB4⟩ := h
  have L4 : ∀ (x0 : Int32) (I4 : Int32 → Int32 → Prop) (m4 : Int32 → Int32 → Nat), (∀ (x1 : Int32) (x2 : Int32), I4 x1 x2 → pX10_cycleSum_4 K x0 x1 x2 (fun x1' x2' => I4 x1' x2' ∧ m4 x1' x2' < m4 x1 x2)) → ∀ (n : Nat) (x1 : Int32) (x2 : Int32) (H : Heap) (locs : List Loc) (ls : Array Slot), I4 x1 x2 → m4 x1 x2 < n → va_P G vwCl (w_X10_cycleSum Y) H → va_D A (w_X10_cycleSum Y) → va_S A s.heap H locs → lv_has ls 5 [(0, .int x0), (1, .int x1), (2, .int x2)] → W p l e R s m args below meth c H locs 0 0 Q (F0 m 4 ls []) := by
    intro x0 I4 m4 hB4 n
    induction n with
    | zero => intro x1 x2 H locs ls _ hm; exact absurd hm (Nat.not_lt_zero _)
    | succ n ih =>
      intro x1 x2 H locs ls hI hm hP hD hS hl
      obtain ⟨R4, h, rec4⟩ : ∃ R4 : Int32 → Int32 → Prop, pX10_cycleSum_4 K x0 x1 x2 R4 ∧ ∀ (x1 : Int32) (x2 : Int32) (H : Heap) (locs : List Loc) (ls : Array Slot), R4 x1 x2 → va_P G vwCl (w_X10_cycleSum Y) H → va_D A (w_X10_cycleSum Y) → va_S A s.heap H locs → lv_has ls 5 [(0, .int x0), (1, .int x1), (2, .int x2)] → W p l e R s m args below meth c H locs 0 0 Q (F0 m 4 ls []) := ⟨_, hB4 x1 x2 hI, fun x1 x2 H locs ls hh hP hD hS hl => ih x1 x2 H locs ls hh.1 (Nat.lt_of_lt_of_le hh.2 (Nat.le_of_lt_succ hm)) hP hD hS hl⟩
      have J43 : ∀ (x1 : Int32) (x2 : Int32) (x3 : Int32) (H : Heap) (locs : List Loc) (ls : Array Slot), pX10_cycleSum_43 R4 K x0 x1 x2 x3 → va_P G vwCl (w_X10_cycleSum Y) H → va_D A (w_X10_cycleSum Y) → va_S A s.heap H locs → lv_has ls 5 [(0, .int x0), (1, .int x1), (2, .int x2), (3, .int x3)] → W p l e R s m args below meth c H locs 0 0 Q (F0 m 43 ls []) := by
        intro x1 x2 x3 H locs ls h hP hD hS hl
        refine lv_iload_n hx hb dX10_cycleSum_43 rfl (lv_at hl 1 rfl) ?_
        refine lv_iload_n hx hb dX10_cycleSum_44 rfl (lv_at hl 3 rfl) ?_
        refine lv_iadd hx hb dX10_cycleSum_45 ?_
        refine lv_istore_n (lv' := [(1, .int (x1 + x3)), (0, .int x0), (2, .int x2), (3, .int x3)]) hx hb dX10_cycleSum_46 rfl hl (by decide) rfl (fun ls hl => ?_)
        refine lv_iinc (v := (x2 + 1)) (lv' := [(2, .int (x2 + 1)), (1, .int (x1 + x3)), (0, .int x0), (3, .int x3)]) hx hb dX10_cycleSum_47 hl (k := 2) rfl rfl (by decide) rfl (fun ls hl => ?_)
        refine lv_goto (tgt := 4) hx hb dX10_cycleSum_50 (by decide) ?_
        exact rec4 (x1 + x3) (x2 + 1) H locs ls h hP hD hS (lv_sub hl [2, 1, 0] rfl)
      refine lv_iload_n hx hb dX10_cycleSum_4 rfl (lv_at hl 2 rfl) ?_
      refine lv_iconst (v := 4) hx hb dX10_cycleSum_5 (by decide) ?_
      obtain ⟨ht, hf⟩ := h
      refine lv_icmp_ge (tgt := 53) hx hb dX10_cycleSum_6 (by decide) (fun c9 => ?_) (fun c9 => ?_)
      · have h := ht c9
        refine lv_iload_n hx hb dX10_cycleSum_53 rfl (lv_at hl 1 rfl) ?_
        exact hret x1  H locs ls _ hP hD hS h dX10_cycleSum_54
      · have h := hf c9
        refine lv_iconst (v := 1) hx hb dX10_cycleSum_9 (by decide) ?_
        refine lv_istore_n (lv' := [(3, .int (1 : Int32)), (0, .int x0), (1, .int x1), (2, .int x2)]) hx hb dX10_cycleSum_10 rfl hl (by decide) rfl (fun ls hl => ?_)
        refine lv_iload_n hx hb dX10_cycleSum_11 rfl (lv_at hl 1 rfl) ?_
        refine lv_iload_n hx hb dX10_cycleSum_12 rfl (lv_at hl 3 rfl) ?_
        refine mc_iS ⟨hx, hb, hml, hown, hts⟩ hK hE hA hP hD hS (c_X5_image l G Y tF H.size x0 x2 h) (va_cwS 2 hts gX10_cycleSum_X5_image rfl rfl rfl (by decide +kernel) ⟨Nat.le_trans (by decide) hRf, Nat.le_trans (by decide) hRl⟩) (fun u => (w_X10_cycleSum Y)) [] [] [] rfl rfl rfl rfl (by decide) (fun _ => rfl) rfl rfl hl.1 rfl (Nat.le_of_ble_eq_true rfl) dX10_cycleSum_13 (fun r13 u H locs h hP hD hS => ?_)
        try dsimp only at h
        have hP : va_P G vwCl (w_X10_cycleSum Y) H := hP
        have hD : va_D A (w_X10_cycleSum Y) := hD
        refine lv_istore (lv' := [(4, .int r13), (3, .int (1 : Int32)), (0, .int x0), (1, .int x1), (2, .int x2)]) hx hb dX10_cycleSum_16 hl (by decide) rfl (fun ls hl => ?_)
        obtain ⟨I18, m18, hI18, hB18⟩ := h
        have L18 : ∀ (x1 : Int32) (x2 : Int32) (I18 : Int32 → Int32 → Prop) (m18 : Int32 → Int32 → Nat), (∀ (x3 : Int32) (x4 : Int32), I18 x3 x4 → pX10_cycleSum_18 R4 K x0 x1 x2 x3 x4 (fun x3' x4' => I18 x3' x4' ∧ m18 x3' x4' < m18 x3 x4)) → ∀ (n : Nat) (x3 : Int32) (x4 : Int32) (H : Heap) (locs : List Loc) (ls : Array Slot), I18 x3 x4 → m18 x3 x4 < n → va_P G vwCl (w_X10_cycleSum Y) H → va_D A (w_X10_cycleSum Y) → va_S A s.heap H locs → lv_has ls 5 [(0, .int x0), (1, .int x1), (2, .int x2), (3, .int x3), (4, .int x4)] → W p l e R s m args below meth c H locs 0 0 Q (F0 m 18 ls []) := by
          intro x1 x2 I18 m18 hB18 n
          induction n with
          | zero => intro x3 x4 H locs ls _ hm; exact absurd hm (Nat.not_lt_zero _)
          | succ n ih =>
            intro x3 x4 H locs ls hI hm hP hD hS hl
            obtain ⟨R18, h, rec18⟩ : ∃ R18 : Int32 → Int32 → Prop, pX10_cycleSum_18 R4 K x0 x1 x2 x3 x4 R18 ∧ ∀ (x3 : Int32) (x4 : Int32) (H : Heap) (locs : List Loc) (ls : Array Slot), R18 x3 x4 → va_P G vwCl (w_X10_cycleSum Y) H → va_D A (w_X10_cycleSum Y) → va_S A s.heap H locs → lv_has ls 5 [(0, .int x0), (1, .int x1), (2, .int x2), (3, .int x3), (4, .int x4)] → W p l e R s m args below meth c H locs 0 0 Q (F0 m 18 ls []) := ⟨_, hB18 x3 x4 hI, fun x3 x4 H locs ls hh hP hD hS hl => ih x3 x4 H locs ls hh.1 (Nat.lt_of_lt_of_le hh.2 (Nat.le_of_lt_succ hm)) hP hD hS hl⟩
            refine lv_iload hx hb dX10_cycleSum_18 (lv_at hl 4 rfl) ?_
            refine lv_iload_n hx hb dX10_cycleSum_20 rfl (lv_at hl 2 rfl) ?_
            obtain ⟨ht, hf⟩ := h
            refine lv_icmp_eq (tgt := 43) hx hb dX10_cycleSum_21 (by decide) (fun c9 => ?_) (fun c9 => ?_)
            · have h := ht c9
              exact J43 x1 x2 x3 H locs ls h hP hD hS (lv_sub hl [0, 1, 2, 3] rfl)
            · have h := hf c9
              refine lv_iload_n hx hb dX10_cycleSum_24 rfl (lv_at hl 3 rfl) ?_
              refine lv_iconst (v := 4) hx hb dX10_cycleSum_25 (by decide) ?_
              obtain ⟨ht, hf⟩ := h
              refine lv_icmp_ge (tgt := 43) hx hb dX10_cycleSum_26 (by decide) (fun c9 => ?_) (fun c9 => ?_)
              · have h := ht c9
                exact J43 x1 x2 x3 H locs ls h hP hD hS (lv_sub hl [0, 1, 2, 3] rfl)
              · have h := hf c9
                refine lv_iload_n hx hb dX10_cycleSum_29 rfl (lv_at hl 0 rfl) ?_
                refine lv_iload hx hb dX10_cycleSum_30 (lv_at hl 4 rfl) ?_
                refine mc_iS ⟨hx, hb, hml, hown, hts⟩ hK hE hA hP hD hS (c_X5_image l G Y tF H.size x0 x4 h) (va_cwS 2 hts gX10_cycleSum_X5_image rfl rfl rfl (by decide +kernel) ⟨Nat.le_trans (by decide) hRf, Nat.le_trans (by decide) hRl⟩) (fun u => (w_X10_cycleSum Y)) [] [] [] rfl rfl rfl rfl (by decide) (fun _ => rfl) rfl rfl hl.1 rfl (Nat.le_of_ble_eq_true rfl) dX10_cycleSum_32 (fun r32 u H locs h hP hD hS => ?_)
                try dsimp only at h
                have hP : va_P G vwCl (w_X10_cycleSum Y) H := hP
                have hD : va_D A (w_X10_cycleSum Y) := hD
                refine lv_istore (lv' := [(4, .int r32), (0, .int x0), (1, .int x1), (2, .int x2), (3, .int x3)]) hx hb dX10_cycleSum_35 hl (by decide) rfl (fun ls hl => ?_)
                refine lv_iinc (v := (x3 + 1)) (lv' := [(3, .int (x3 + 1)), (4, .int r32), (0, .int x0), (1, .int x1), (2, .int x2)]) hx hb dX10_cycleSum_37 hl (k := 4) rfl rfl (by decide) rfl (fun ls hl => ?_)
                refine lv_goto (tgt := 18) hx hb dX10_cycleSum_40 (by decide) ?_
                exact rec18 (x3 + 1) r32 H locs ls h hP hD hS (lv_sub hl [2, 3, 4, 0, 1] rfl)
        exact L18 x1 x2 I18 m18 hB18 _ (1 : Int32) r13 H locs ls hI18 (Nat.lt_succ_self _) hP hD hS (lv_sub hl [2, 3, 4, 1, 0] rfl)
  exact L4 x0 I4 m4 hB4 _ (0 : Int32) (0 : Int32) H locs ls hI4 (Nat.lt_succ_self _) hP hD hS (lv_sub hl [2, 1, 0] rfl)

set_option maxHeartbeats 4000000 in
set_option maxRecDepth 100000 in
theorem c_X10_cycleSum (l : Launch) (G : va_G) (Y : Nat → ClassId) (tF sz : Nat) (x0 : Int32) {K : Int32 → Prop} (h : pX10_cycleSum x0 K) : Met l yX10_cycleSum wsX10_cycleSum ({ frames := 1, cells := 0, slots := 0, locals := 21 }) (PcM G Y tF sz (w_X10_cycleSum Y) [.int x0]) (va_Qi (fun (r : Int32) (u : Unit) => K r ) (fun u t => BM G Y (va_A (w_X10_cycleSum Y) sz) (w_X10_cycleSum Y) t) (va_A (w_X10_cycleSum Y) sz)) 0 0 (va_A (w_X10_cycleSum Y) sz) := by
  refine Met.ofW (cc := cX10_cycleSum) (maxL := 5) (ret := (some .int)) (by decide +kernel) rfl ?_
  intro p e s m args below meth c s₁ B hml hv
  obtain ⟨rfl, hsz, hP, hK, hD0, hE⟩ := hv
  have hts := atoms_spec (ws := wsX10_cycleSum) B.pre
  have hown : s.vm.findClass RX10 = some m.cls := findClass_of_methodNamed B.named
  have hlocks := B.notSynchronized
  subst hsz
  have hD := hD0.self (sz := s.heap.size)
  exact wk_X10_cycleSum x0 B.exec B.bytes hml hown hts hK hE (fun q h => Or.inr h) (Nat.le_refl _) (Nat.le_refl _) (fun r  H locs ls pc hP hD hS hk hd => W.iret (v := r) B.exec B.bytes B.returns (fun t ht hW => ⟨⟨r, (), rfl, hk, by rw [ht]; exact hP, va_K.moved hW.alike hK, hD⟩, hS.F ht⟩) hS.2.2 hd) hP hD h

abbrev w_X10_gatherPeers (Y : Nat → ClassId) (h_t : Nat) (B_t : Nat → Nat) (t_toldCount : Int32) (t_peers : Nat → Int32) : va_W := [(h_t, .inr (9, [.ref (B_t 0), .ref (B_t 1), .ref (B_t 2), .ref (B_t 3), .ref (B_t 4), .ref (B_t 5), .ref (B_t 6), .ref (B_t 7), .ref (B_t 8), .ref (B_t 9), .ref (B_t 10), .ref (B_t 11), .ref (B_t 12), .ref (B_t 13), .int t_toldCount])), ((B_t 12), .inl (Y 0, 8, .inl t_peers))]

set_option maxHeartbeats 4000000 in
set_option maxRecDepth 100000 in
theorem wk_X10_gatherPeers {p : Program} {l : Launch} {e : Env} {R : Room} {s : State} {m : MethodId} {args : Array Value} {below : List Frame} {meth : Method} {c : Code} {Q : State → Prop} {G : va_G} {Y : Nat → ClassId} {tF : Nat} {A : Nat → Prop} (h_t : Nat) (B_t : Nat → Nat) (t_toldCount : Int32) (t_peers : Nat → Int32) (x1 : Int32) {K : Int32 → (Nat → Int32) → Prop} (hx : p.tables.exec = Jvm.exec) (hb : c.code = cX10_gatherPeers) (hml : c.maxLocals = 6) (hown : s.vm.findClass RX10 = some m.cls) (hts : ∀ w ∈ wsX10_gatherPeers, w.before args s = true) (hK : va_K G vwCl (tyL Y) s) (hE : Ev A tF s) (hA : ∀ q, s.heap.size ≤ q → A q) (hRf : 2 ≤ R.frames) (hRl : 50 ≤ R.locals) (hret : ∀ (r : Int32) (t_peers : Nat → Int32) (H : Heap) (locs : List Loc) (ls : Array Slot) (pc : Nat), va_P G vwCl (w_X10_gatherPeers Y h_t B_t t_toldCount t_peers) H → va_D A (w_X10_gatherPeers Y h_t B_t t_toldCount t_peers) → va_S A s.heap H locs → K r t_peers → decode cX10_gatherPeers pc = .ok (.ireturn, 1) → W p l e R s m args below meth c H locs 0 0 Q (F0 m pc ls [.int r])) (hP : va_P G vwCl (w_X10_gatherPeers Y h_t B_t t_toldCount t_peers) s.heap) (hD : va_D A (w_X10_gatherPeers Y h_t B_t t_toldCount t_peers)) (h : pX10_gatherPeers t_peers x1 K) : W p l e R s m args below meth c s.heap [] 0 0 Q (entryFrame m ([.ref h_t, .int x1] : List Value).toArray 6) := by
  have inX10 : ∀ w ∈ u_ws RX10 TX10 15, w ∈ wsX10_gatherPeers := by decide +kernel
  have hf136 := hts (.fieldLink RX10 136 "RackBench" "FACTORIALS" "[I") (by decide +kernel)
  have hf84 := hts (.fieldLink RX10 84 "RackBench" "peers" "[I") (by decide +kernel)
  have hl := lv_entry ([.ref h_t, .int x1]) (n := 6) (Nat.le_of_ble_eq_true rfl)
  rw [lg_entry_eq]
  generalize (lg_sl ([.ref h_t, .int x1]) ++ List.replicate (6 - (lg_sl ([.ref h_t, .int x1])).length) Slot.unset).toArray = ls at hl ⊢
  have hl : lv_has ls 6 [(0, .ref h_t), (1, .int x1)] := hl
  generalize hH0 : s.heap = H at hP ⊢
  have hS : va_S A s.heap H [] := by rw [← hH0]; exact va_S.rf
  clear hH0
  generalize ([] : List Loc) = locs at hS ⊢
  refine lv_iconst (v := 4) hx hb dX10_gatherPeers_0 (by decide) ?_
  refine lv_iload_n hx hb dX10_gatherPeers_1 rfl (lv_at hl 1 rfl) ?_
  refine mc_iS ⟨hx, hb, hml, hown, hts⟩ hK hE hA hP hD hS (c_X5_numbered l G Y tF H.size (4 : Int32) x1 h) (va_cwS 2 hts gX10_gatherPeers_X5_numbered rfl rfl rfl (by decide +kernel) ⟨Nat.le_trans (by decide) hRf, Nat.le_trans (by decide) hRl⟩) (fun u => (w_X10_gatherPeers Y h_t B_t t_toldCount t_peers)) [] [0, 1] [0, 1] rfl rfl rfl rfl (by decide) (fun _ => rfl) rfl rfl hl.1 rfl (Nat.le_of_ble_eq_true rfl) dX10_gatherPeers_2 (fun r2 u H locs h hP hD hS => ?_)
  try dsimp only at h
  have hP : va_P G vwCl (w_X10_gatherPeers Y h_t B_t t_toldCount t_peers) H := hP
  have hD : va_D A (w_X10_gatherPeers Y h_t B_t t_toldCount t_peers) := hD
  refine mc_iS ⟨hx, hb, hml, hown, hts⟩ hK hE hA hP hD hS (c_X10_cycleSum l G Y tF H.size r2 h) (va_cwS 1 hts gX10_gatherPeers_X10_cycleSum rfl rfl rfl (by decide +kernel) ⟨Nat.le_trans (by decide) hRf, Nat.le_trans (by decide) hRl⟩) (fun u => (w_X10_gatherPeers Y h_t B_t t_toldCount t_peers)) [] [0, 1] [0, 1] rfl rfl rfl rfl (by decide) (fun _ => rfl) rfl rfl hl.1 rfl (Nat.le_of_ble_eq_true rfl) dX10_gatherPeers_5 (fun r5 u H locs h hP hD hS => ?_)
  try dsimp only at h
  have hP : va_P G vwCl (w_X10_gatherPeers Y h_t B_t t_toldCount t_peers) H := hP
  have hD : va_D A (w_X10_gatherPeers Y h_t B_t t_toldCount t_peers) := hD
  refine lv_istore_n (lv' := [(2, .int r5), (0, .ref h_t), (1, .int x1)]) hx hb dX10_gatherPeers_8 rfl hl (by decide) rfl (fun ls hl => ?_)
  refine lv_iconst (v := 0) hx hb dX10_gatherPeers_9 (by decide) ?_
  refine lv_istore_n (lv' := [(3, .int (0 : Int32)), (2, .int r5), (0, .ref h_t), (1, .int x1)]) hx hb dX10_gatherPeers_10 rfl hl (by decide) rfl (fun ls hl => ?_)
  refine lv_iconst (v := 0) hx hb dX10_gatherPeers_11 (by decide) ?_
  refine lv_istore (lv' := [(4, .int (0 : Int32)), (3, .int (0 : Int32)), (2, .int r5), (0, .ref h_t), (1, .int x1)]) hx hb dX10_gatherPeers_12 hl (by decide) rfl (fun ls hl => ?_)
  obtain ⟨I14, m14, hI14, hB14⟩ := h
  have L14 : ∀ (x2 : Int32) (I14 : Int32 → Int32 → (Nat → Int32) → Prop) (m14 : Int32 → Int32 → (Nat → Int32) → Nat), (∀ (x3 : Int32) (x4 : Int32) (t_peers : Nat → Int32), I14 x3 x4 t_peers → pX10_gatherPeers_14 K x2 x3 x4 t_peers (fun x3' x4' t_peers' => I14 x3' x4' t_peers' ∧ m14 x3' x4' t_peers' < m14 x3 x4 t_peers)) → ∀ (n : Nat) (x3 : Int32) (x4 : Int32) (t_peers : Nat → Int32) (H : Heap) (locs : List Loc) (ls : Array Slot), I14 x3 x4 t_peers → m14 x3 x4 t_peers < n → va_P G vwCl (w_X10_gatherPeers Y h_t B_t t_toldCount t_peers) H → va_D A (w_X10_gatherPeers Y h_t B_t t_toldCount t_peers) → va_S A s.heap H locs → lv_has ls 6 [(0, .ref h_t), (2, .int x2), (3, .int x3), (4, .int x4)] → W p l e R s m args below meth c H locs 0 0 Q (F0 m 14 ls []) := by
    intro x2 I14 m14 hB14 n
    induction n with
    | zero => intro x3 x4 t_peers H locs ls _ hm; exact absurd hm (Nat.not_lt_zero _)
    | succ n ih =>
      intro x3 x4 t_peers H locs ls hI hm hP hD hS hl
      obtain ⟨R14, h, rec14⟩ : ∃ R14 : Int32 → Int32 → (Nat → Int32) → Prop, pX10_gatherPeers_14 K x2 x3 x4 t_peers R14 ∧ ∀ (x3 : Int32) (x4 : Int32) (t_peers : Nat → Int32) (H : Heap) (locs : List Loc) (ls : Array Slot), R14 x3 x4 t_peers → va_P G vwCl (w_X10_gatherPeers Y h_t B_t t_toldCount t_peers) H → va_D A (w_X10_gatherPeers Y h_t B_t t_toldCount t_peers) → va_S A s.heap H locs → lv_has ls 6 [(0, .ref h_t), (2, .int x2), (3, .int x3), (4, .int x4)] → W p l e R s m args below meth c H locs 0 0 Q (F0 m 14 ls []) := ⟨_, hB14 x3 x4 t_peers hI, fun x3 x4 t_peers H locs ls hh hP hD hS hl => ih x3 x4 t_peers H locs ls hh.1 (Nat.lt_of_lt_of_le hh.2 (Nat.le_of_lt_succ hm)) hP hD hS hl⟩
      refine lv_iload hx hb dX10_gatherPeers_14 (lv_at hl 3 rfl) ?_
      refine va_gets hx hb hE.2.1 hS hown hf136 (fun _ h9 => h9) dX10_gatherPeers_16 ?_
      refine lv_iconst (v := 4) hx hb dX10_gatherPeers_19 (by decide) ?_
      obtain ⟨hin, h⟩ := h
      refine va_ti hx hb hE.2.2 hS hin rfl dX10_gatherPeers_20 ?_
      obtain ⟨ht, hf⟩ := h
      refine lv_icmp_ge (tgt := 67) hx hb dX10_gatherPeers_21 (by decide) (fun c9 => ?_) (fun c9 => ?_)
      · have h := ht c9
        refine lv_iload_n hx hb dX10_gatherPeers_67 rfl (lv_at hl 2 rfl) ?_
        exact hret x3 t_peers H locs ls _ hP hD hS h dX10_gatherPeers_68
      · have h := hf c9
        refine lv_iconst (v := 4) hx hb dX10_gatherPeers_24 (by decide) ?_
        refine lv_iload hx hb dX10_gatherPeers_25 (lv_at hl 3 rfl) ?_
        refine mc_iS ⟨hx, hb, hml, hown, hts⟩ hK hE hA hP hD hS (c_X5_numbered l G Y tF H.size (4 : Int32) x4 h) (va_cwS 2 hts gX10_gatherPeers_X5_numbered rfl rfl rfl (by decide +kernel) ⟨Nat.le_trans (by decide) hRf, Nat.le_trans (by decide) hRl⟩) (fun u => (w_X10_gatherPeers Y h_t B_t t_toldCount t_peers)) [] [0, 1] [0, 1] rfl rfl rfl rfl (by decide) (fun _ => rfl) rfl rfl hl.1 rfl (Nat.le_of_ble_eq_true rfl) dX10_gatherPeers_27 (fun r27 u H locs h hP hD hS => ?_)
        try dsimp only at h
        have hP : va_P G vwCl (w_X10_gatherPeers Y h_t B_t t_toldCount t_peers) H := hP
        have hD : va_D A (w_X10_gatherPeers Y h_t B_t t_toldCount t_peers) := hD
        refine lv_istore (lv' := [(5, .int r27), (0, .ref h_t), (2, .int x2), (3, .int x3), (4, .int x4)]) hx hb dX10_gatherPeers_30 hl (by decide) rfl (fun ls hl => ?_)
        refine lv_iload hx hb dX10_gatherPeers_32 (lv_at hl 0 rfl) ?_
        refine mc_iS ⟨hx, hb, hml, hown, hts⟩ hK hE hA hP hD hS (c_X10_cycleSum l G Y tF H.size r27 h) (va_cwS 1 hts gX10_gatherPeers_X10_cycleSum rfl rfl rfl (by decide +kernel) ⟨Nat.le_trans (by decide) hRf, Nat.le_trans (by decide) hRl⟩) (fun u => (w_X10_gatherPeers Y h_t B_t t_toldCount t_peers)) [] [0, 1] [0, 1] rfl rfl rfl rfl (by decide) (fun _ => rfl) rfl rfl hl.1 rfl (Nat.le_of_ble_eq_true rfl) dX10_gatherPeers_34 (fun r34 u H locs h hP hD hS => ?_)
        try dsimp only at h
        have hP : va_P G vwCl (w_X10_gatherPeers Y h_t B_t t_toldCount t_peers) H := hP
        have hD : va_D A (w_X10_gatherPeers Y h_t B_t t_toldCount t_peers) := hD
        refine lv_iload_n hx hb dX10_gatherPeers_37 rfl (lv_at hl 2 rfl) ?_
        obtain ⟨ht, hf⟩ := h
        refine lv_icmp_ne (tgt := 61) hx hb dX10_gatherPeers_38 (by decide) (fun c9 => ?_) (fun c9 => ?_)
        · have h := ht c9
          refine lv_iinc (v := (x4 + 1)) (lv' := [(4, .int (x4 + 1)), (5, .int r27), (0, .ref h_t), (2, .int x2), (3, .int x3)]) hx hb dX10_gatherPeers_61 hl (k := 4) rfl rfl (by decide) rfl (fun ls hl => ?_)
          refine lv_goto (tgt := 14) hx hb dX10_gatherPeers_64 (by decide) ?_
          exact rec14 x3 (x4 + 1) t_peers H locs ls h hP hD hS (lv_sub hl [2, 3, 4, 0] rfl)
        · have h := hf c9
          refine lv_iload_n hx hb dX10_gatherPeers_41 rfl (lv_at hl 3 rfl) ?_
          refine lv_aload_n hx hb dX10_gatherPeers_42 rfl (lv_at hl 1 rfl) ?_
          refine va_get (D := G) (ci := 9) (v := .ref (B_t 12)) (C := RX10) (T := TX10) (N := 15) hx hb hts inX10 hown hK hP 0 rfl rfl 12 (by decide) hf84 (fun _ h9 => h9) rfl dX10_gatherPeers_43 ?_
          refine va_alen hx hb hK hP 1 0 rfl rfl rfl dX10_gatherPeers_46 ?_
          obtain ⟨ht, hf⟩ := h
          refine lv_icmp_ge (tgt := 61) hx hb dX10_gatherPeers_47 (by decide) (fun c9 => ?_) (fun c9 => ?_)
          · have h := ht c9
            refine lv_iinc (v := (x4 + 1)) (lv' := [(4, .int (x4 + 1)), (5, .int r27), (0, .ref h_t), (2, .int x2), (3, .int x3)]) hx hb dX10_gatherPeers_61 hl (k := 4) rfl rfl (by decide) rfl (fun ls hl => ?_)
            refine lv_goto (tgt := 14) hx hb dX10_gatherPeers_64 (by decide) ?_
            exact rec14 x3 (x4 + 1) t_peers H locs ls h hP hD hS (lv_sub hl [2, 3, 4, 0] rfl)
          · have h := hf c9
            refine lv_aload_n hx hb dX10_gatherPeers_50 rfl (lv_at hl 1 rfl) ?_
            refine va_get (D := G) (ci := 9) (v := .ref (B_t 12)) (C := RX10) (T := TX10) (N := 15) hx hb hts inX10 hown hK hP 0 rfl rfl 12 (by decide) hf84 (fun _ h9 => h9) rfl dX10_gatherPeers_51 ?_
            refine lv_iload_n hx hb dX10_gatherPeers_54 rfl (lv_at hl 3 rfl) ?_
            refine lv_iload hx hb dX10_gatherPeers_55 (lv_at hl 0 rfl) ?_
            obtain ⟨hin, h⟩ := h
            refine va_iast hx hb hK hP hD hS 1 0 rfl rfl hin dX10_gatherPeers_57 (fun H locs hP hD hS => ?_)
            have hP : va_P G vwCl (w_X10_gatherPeers Y h_t B_t t_toldCount (upd t_peers (Int32.toNatClampNeg x3) r27)) H := hP
            have hD : va_D A (w_X10_gatherPeers Y h_t B_t t_toldCount (upd t_peers (Int32.toNatClampNeg x3) r27)) := hD
            refine lv_iinc (v := (x3 + 1)) (lv' := [(3, .int (x3 + 1)), (5, .int r27), (0, .ref h_t), (2, .int x2), (4, .int x4)]) hx hb dX10_gatherPeers_58 hl (k := 3) rfl rfl (by decide) rfl (fun ls hl => ?_)
            refine lv_iinc (v := (x4 + 1)) (lv' := [(4, .int (x4 + 1)), (3, .int (x3 + 1)), (5, .int r27), (0, .ref h_t), (2, .int x2)]) hx hb dX10_gatherPeers_61 hl (k := 4) rfl rfl (by decide) rfl (fun ls hl => ?_)
            refine lv_goto (tgt := 14) hx hb dX10_gatherPeers_64 (by decide) ?_
            exact rec14 (x3 + 1) (x4 + 1) (upd t_peers (Int32.toNatClampNeg x3) r27) H locs ls h hP hD hS (lv_sub hl [3, 4, 1, 0] rfl)
  exact L14 r5 I14 m14 hB14 _ (0 : Int32) (0 : Int32) t_peers H locs ls hI14 (Nat.lt_succ_self _) hP hD hS (lv_sub hl [3, 2, 1, 0] rfl)

set_option maxHeartbeats 4000000 in
set_option maxRecDepth 100000 in
theorem c_X10_gatherPeers (l : Launch) (G : va_G) (Y : Nat → ClassId) (tF sz : Nat) (h_t : Nat) (B_t : Nat → Nat) (t_toldCount : Int32) (t_peers : Nat → Int32) (x1 : Int32) {K : Int32 → (Nat → Int32) → Prop} (h : pX10_gatherPeers t_peers x1 K) : Met l yX10_gatherPeers wsX10_gatherPeers ({ frames := 2, cells := 0, slots := 0, locals := 50 }) (PcM G Y tF sz (w_X10_gatherPeers Y h_t B_t t_toldCount t_peers) [.ref h_t, .int x1]) (va_Qi (fun (r : Int32) (u : (Nat → Int32)) => K r u) (fun u t => BM G Y (va_A (w_X10_gatherPeers Y h_t B_t t_toldCount t_peers) sz) (w_X10_gatherPeers Y h_t B_t t_toldCount u) t) (va_A (w_X10_gatherPeers Y h_t B_t t_toldCount t_peers) sz)) 0 0 (va_A (w_X10_gatherPeers Y h_t B_t t_toldCount t_peers) sz) := by
  refine Met.ofW (cc := cX10_gatherPeers) (maxL := 6) (ret := (some .int)) (by decide +kernel) rfl ?_
  intro p e s m args below meth c s₁ B hml hv
  obtain ⟨rfl, hsz, hP, hK, hD0, hE⟩ := hv
  have hts := atoms_spec (ws := wsX10_gatherPeers) B.pre
  have hown : s.vm.findClass RX10 = some m.cls := findClass_of_methodNamed B.named
  have hlocks := B.notSynchronized
  subst hsz
  have hD := hD0.self (sz := s.heap.size)
  exact wk_X10_gatherPeers h_t B_t t_toldCount t_peers x1 B.exec B.bytes hml hown hts hK hE (fun q h => Or.inr h) (Nat.le_refl _) (Nat.le_refl _) (fun r t_peers H locs ls pc hP hD hS hk hd => W.iret (v := r) B.exec B.bytes B.returns (fun t ht hW => ⟨⟨r, t_peers, rfl, hk, by rw [ht]; exact hP, va_K.moved hW.alike hK, hD⟩, hS.F ht⟩) hS.2.2 hd) hP hD h

abbrev w_X10_peerOf (Y : Nat → ClassId) (h_t : Nat) (B_t : Nat → Nat) (t_toldCount : Int32) (t_peers : Nat → Int32) : va_W := [(h_t, .inr (9, [.ref (B_t 0), .ref (B_t 1), .ref (B_t 2), .ref (B_t 3), .ref (B_t 4), .ref (B_t 5), .ref (B_t 6), .ref (B_t 7), .ref (B_t 8), .ref (B_t 9), .ref (B_t 10), .ref (B_t 11), .ref (B_t 12), .ref (B_t 13), .int t_toldCount])), ((B_t 12), .inl (Y 0, 8, .inl t_peers))]

set_option maxHeartbeats 4000000 in
set_option maxRecDepth 100000 in
theorem wk_X10_peerOf {p : Program} {l : Launch} {e : Env} {R : Room} {s : State} {m : MethodId} {args : Array Value} {below : List Frame} {meth : Method} {c : Code} {Q : State → Prop} {G : va_G} {Y : Nat → ClassId} {tF : Nat} {A : Nat → Prop} (h_t : Nat) (B_t : Nat → Nat) (t_toldCount : Int32) (t_peers : Nat → Int32) (x1 : Int32) (x2 : Int32) {K : Int32 → Prop} (hx : p.tables.exec = Jvm.exec) (hb : c.code = cX10_peerOf) (hml : c.maxLocals = 5) (hown : s.vm.findClass RX10 = some m.cls) (hts : ∀ w ∈ wsX10_peerOf, w.before args s = true) (hK : va_K G vwCl (tyL Y) s) (hE : Ev A tF s) (hA : ∀ q, s.heap.size ≤ q → A q) (hRf : 0 ≤ R.frames) (hRl : 0 ≤ R.locals) (hret : ∀ (r : Int32)  (H : Heap) (locs : List Loc) (ls : Array Slot) (pc : Nat), va_P G vwCl (w_X10_peerOf Y h_t B_t t_toldCount t_peers) H → va_D A (w_X10_peerOf Y h_t B_t t_toldCount t_peers) → va_S A s.heap H locs → K r → decode cX10_peerOf pc = .ok (.ireturn, 1) → W p l e R s m args below meth c H locs 0 0 Q (F0 m pc ls [.int r])) (hP : va_P G vwCl (w_X10_peerOf Y h_t B_t t_toldCount t_peers) s.heap) (hD : va_D A (w_X10_peerOf Y h_t B_t t_toldCount t_peers)) (h : pX10_peerOf t_peers x1 x2 K) : W p l e R s m args below meth c s.heap [] 0 0 Q (entryFrame m ([.ref h_t, .int x1, .int x2] : List Value).toArray 5) := by
  have inX10 : ∀ w ∈ u_ws RX10 TX10 15, w ∈ wsX10_peerOf := by decide +kernel
  have hf84 := hts (.fieldLink RX10 84 "RackBench" "peers" "[I") (by decide +kernel)
  have hl := lv_entry ([.ref h_t, .int x1, .int x2]) (n := 5) (Nat.le_of_ble_eq_true rfl)
  rw [lg_entry_eq]
  generalize (lg_sl ([.ref h_t, .int x1, .int x2]) ++ List.replicate (5 - (lg_sl ([.ref h_t, .int x1, .int x2])).length) Slot.unset).toArray = ls at hl ⊢
  have hl : lv_has ls 5 [(0, .ref h_t), (1, .int x1), (2, .int x2)] := hl
  generalize hH0 : s.heap = H at hP ⊢
  have hS : va_S A s.heap H [] := by rw [← hH0]; exact va_S.rf
  clear hH0
  generalize ([] : List Loc) = locs at hS ⊢
  refine lv_iconst (v := 0) hx hb dX10_peerOf_0 (by decide) ?_
  refine lv_istore_n (lv' := [(3, .int (0 : Int32)), (0, .ref h_t), (1, .int x1), (2, .int x2)]) hx hb dX10_peerOf_1 rfl hl (by decide) rfl (fun ls hl => ?_)
  refine lv_iconst (v := 0) hx hb dX10_peerOf_2 (by decide) ?_
  refine lv_istore (lv' := [(4, .int (0 : Int32)), (3, .int (0 : Int32)), (0, .ref h_t), (1, .int x1), (2, .int x2)]) hx hb dX10_peerOf_3 hl (by decide) rfl (fun ls hl => ?_)
  obtain ⟨I5, m5, hI5, hB5⟩ := h
  have L5 : ∀ (x1 : Int32) (x2 : Int32) (I5 : Int32 → Int32 → Prop) (m5 : Int32 → Int32 → Nat), (∀ (x3 : Int32) (x4 : Int32), I5 x3 x4 → pX10_peerOf_5 t_peers K x1 x2 x3 x4 (fun x3' x4' => I5 x3' x4' ∧ m5 x3' x4' < m5 x3 x4)) → ∀ (n : Nat) (x3 : Int32) (x4 : Int32) (H : Heap) (locs : List Loc) (ls : Array Slot), I5 x3 x4 → m5 x3 x4 < n → va_P G vwCl (w_X10_peerOf Y h_t B_t t_toldCount t_peers) H → va_D A (w_X10_peerOf Y h_t B_t t_toldCount t_peers) → va_S A s.heap H locs → lv_has ls 5 [(0, .ref h_t), (1, .int x1), (2, .int x2), (3, .int x3), (4, .int x4)] → W p l e R s m args below meth c H locs 0 0 Q (F0 m 5 ls []) := by
    intro x1 x2 I5 m5 hB5 n
    induction n with
    | zero => intro x3 x4 H locs ls _ hm; exact absurd hm (Nat.not_lt_zero _)
    | succ n ih =>
      intro x3 x4 H locs ls hI hm hP hD hS hl
      obtain ⟨R5, h, rec5⟩ : ∃ R5 : Int32 → Int32 → Prop, pX10_peerOf_5 t_peers K x1 x2 x3 x4 R5 ∧ ∀ (x3 : Int32) (x4 : Int32) (H : Heap) (locs : List Loc) (ls : Array Slot), R5 x3 x4 → va_P G vwCl (w_X10_peerOf Y h_t B_t t_toldCount t_peers) H → va_D A (w_X10_peerOf Y h_t B_t t_toldCount t_peers) → va_S A s.heap H locs → lv_has ls 5 [(0, .ref h_t), (1, .int x1), (2, .int x2), (3, .int x3), (4, .int x4)] → W p l e R s m args below meth c H locs 0 0 Q (F0 m 5 ls []) := ⟨_, hB5 x3 x4 hI, fun x3 x4 H locs ls hh hP hD hS hl => ih x3 x4 H locs ls hh.1 (Nat.lt_of_lt_of_le hh.2 (Nat.le_of_lt_succ hm)) hP hD hS hl⟩
      refine lv_iload hx hb dX10_peerOf_5 (lv_at hl 4 rfl) ?_
      refine lv_iload_n hx hb dX10_peerOf_7 rfl (lv_at hl 2 rfl) ?_
      obtain ⟨ht, hf⟩ := h
      refine lv_icmp_ge (tgt := 31) hx hb dX10_peerOf_8 (by decide) (fun c9 => ?_) (fun c9 => ?_)
      · have h := ht c9
        refine lv_iload_n hx hb dX10_peerOf_31 rfl (lv_at hl 3 rfl) ?_
        exact hret x3  H locs ls _ hP hD hS h dX10_peerOf_32
      · have h := hf c9
        refine lv_aload_n hx hb dX10_peerOf_11 rfl (lv_at hl 0 rfl) ?_
        refine va_get (D := G) (ci := 9) (v := .ref (B_t 12)) (C := RX10) (T := TX10) (N := 15) hx hb hts inX10 hown hK hP 0 rfl rfl 12 (by decide) hf84 (fun _ h9 => h9) rfl dX10_peerOf_12 ?_
        refine lv_iload hx hb dX10_peerOf_15 (lv_at hl 4 rfl) ?_
        obtain ⟨hin, h⟩ := h
        refine va_iald hx hb hK hP 1 0 rfl rfl hin dX10_peerOf_17 ?_
        refine lv_iload_n hx hb dX10_peerOf_18 rfl (lv_at hl 1 rfl) ?_
        obtain ⟨ht, hf⟩ := h
        refine lv_icmp_ne (tgt := 25) hx hb dX10_peerOf_19 (by decide) (fun c9 => ?_) (fun c9 => ?_)
        · have h := ht c9
          refine lv_iinc (v := (x4 + 1)) (lv' := [(4, .int (x4 + 1)), (0, .ref h_t), (1, .int x1), (2, .int x2), (3, .int x3)]) hx hb dX10_peerOf_25 hl (k := 4) rfl rfl (by decide) rfl (fun ls hl => ?_)
          refine lv_goto (tgt := 5) hx hb dX10_peerOf_28 (by decide) ?_
          exact rec5 x3 (x4 + 1) H locs ls h hP hD hS (lv_sub hl [1, 2, 3, 4, 0] rfl)
        · have h := hf c9
          refine lv_iload hx hb dX10_peerOf_22 (lv_at hl 4 rfl) ?_
          refine lv_istore_n (lv' := [(3, .int x4), (0, .ref h_t), (1, .int x1), (2, .int x2), (4, .int x4)]) hx hb dX10_peerOf_24 rfl hl (by decide) rfl (fun ls hl => ?_)
          refine lv_iinc (v := (x4 + 1)) (lv' := [(4, .int (x4 + 1)), (3, .int x4), (0, .ref h_t), (1, .int x1), (2, .int x2)]) hx hb dX10_peerOf_25 hl (k := 4) rfl rfl (by decide) rfl (fun ls hl => ?_)
          refine lv_goto (tgt := 5) hx hb dX10_peerOf_28 (by decide) ?_
          exact rec5 x4 (x4 + 1) H locs ls h hP hD hS (lv_sub hl [2, 3, 4, 1, 0] rfl)
  exact L5 x1 x2 I5 m5 hB5 _ (0 : Int32) (0 : Int32) H locs ls hI5 (Nat.lt_succ_self _) hP hD hS (lv_sub hl [2, 3, 4, 1, 0] rfl)

set_option maxHeartbeats 4000000 in
set_option maxRecDepth 100000 in
theorem c_X10_peerOf (l : Launch) (G : va_G) (Y : Nat → ClassId) (tF sz : Nat) (h_t : Nat) (B_t : Nat → Nat) (t_toldCount : Int32) (t_peers : Nat → Int32) (x1 : Int32) (x2 : Int32) {K : Int32 → Prop} (h : pX10_peerOf t_peers x1 x2 K) : Met l yX10_peerOf wsX10_peerOf ({ frames := 0, cells := 0, slots := 0, locals := 0 }) (PcM G Y tF sz (w_X10_peerOf Y h_t B_t t_toldCount t_peers) [.ref h_t, .int x1, .int x2]) (va_Qi (fun (r : Int32) (u : Unit) => K r ) (fun u t => BM G Y (va_A (w_X10_peerOf Y h_t B_t t_toldCount t_peers) sz) (w_X10_peerOf Y h_t B_t t_toldCount t_peers) t) (va_A (w_X10_peerOf Y h_t B_t t_toldCount t_peers) sz)) 0 0 (va_A (w_X10_peerOf Y h_t B_t t_toldCount t_peers) sz) := by
  refine Met.ofW (cc := cX10_peerOf) (maxL := 5) (ret := (some .int)) (by decide +kernel) rfl ?_
  intro p e s m args below meth c s₁ B hml hv
  obtain ⟨rfl, hsz, hP, hK, hD0, hE⟩ := hv
  have hts := atoms_spec (ws := wsX10_peerOf) B.pre
  have hown : s.vm.findClass RX10 = some m.cls := findClass_of_methodNamed B.named
  have hlocks := B.notSynchronized
  subst hsz
  have hD := hD0.self (sz := s.heap.size)
  exact wk_X10_peerOf h_t B_t t_toldCount t_peers x1 x2 B.exec B.bytes hml hown hts hK hE (fun q h => Or.inr h) (Nat.le_refl _) (Nat.le_refl _) (fun r  H locs ls pc hP hD hS hk hd => W.iret (v := r) B.exec B.bytes B.returns (fun t ht hW => ⟨⟨r, (), rfl, hk, by rw [ht]; exact hP, va_K.moved hW.alike hK, hD⟩, hS.F ht⟩) hS.2.2 hd) hP hD h

abbrev w_X10_group (Y : Nat → ClassId) (h_t : Nat) (B_t : Nat → Nat) (B_t_current : Nat → Nat) (B_t_draft : Nat → Nat) (B_t_twisting : Nat → Nat) (t_toldCount : Int32) (t_current_n : Int32) (t_current_cells : Nat → Int32) (t_draft_n : Int32) (t_draft_cells : Nat → Int32) (t_peers : Nat → Int32) (t_twisting_modulus : Int32) (t_twisting_values : Nat → Int32) : va_W := [(h_t, .inr (9, [.ref (B_t 0), .ref (B_t 1), .ref (B_t 2), .ref (B_t 3), .ref (B_t 4), .ref (B_t 5), .ref (B_t 6), .ref (B_t 7), .ref (B_t 8), .ref (B_t 9), .ref (B_t 10), .ref (B_t 11), .ref (B_t 12), .ref (B_t 13), .int t_toldCount])), ((B_t 0), .inr (6, [.ref (B_t_current 0), .int t_current_n])), ((B_t_current 0), .inl (Y 0, 64, .inl t_current_cells)), ((B_t 1), .inr (6, [.ref (B_t_draft 0), .int t_draft_n])), ((B_t_draft 0), .inl (Y 0, 64, .inl t_draft_cells)), ((B_t 12), .inl (Y 0, 8, .inl t_peers)), ((B_t 4), .inr (8, [.ref (B_t_twisting 0), .int t_twisting_modulus])), ((B_t_twisting 0), .inl (Y 0, 64, .inl t_twisting_values))]

set_option maxHeartbeats 4000000 in
set_option maxRecDepth 100000 in
theorem wk_X10_group {p : Program} {l : Launch} {e : Env} {R : Room} {s : State} {m : MethodId} {args : Array Value} {below : List Frame} {meth : Method} {c : Code} {Q : State → Prop} {G : va_G} {Y : Nat → ClassId} {tF : Nat} {A : Nat → Prop} (h_t : Nat) (B_t : Nat → Nat) (B_t_current : Nat → Nat) (B_t_draft : Nat → Nat) (B_t_twisting : Nat → Nat) (t_toldCount : Int32) (t_current_n : Int32) (t_current_cells : Nat → Int32) (t_draft_n : Int32) (t_draft_cells : Nat → Int32) (t_peers : Nat → Int32) (t_twisting_modulus : Int32) (t_twisting_values : Nat → Int32) (x1 : Int32) {K : Int32 → Int32 → (Nat → Int32) → Int32 → (Nat → Int32) → (Nat → Int32) → (Nat → Int32) → Prop} (hx : p.tables.exec = Jvm.exec) (hb : c.code = cX10_group) (hml : c.maxLocals = 6) (hown : s.vm.findClass RX10 = some m.cls) (hts : ∀ w ∈ wsX10_group, w.before args s = true) (hK : va_K G vwCl (tyL Y) s) (hE : Ev A tF s) (hA : ∀ q, s.heap.size ≤ q → A q) (hRf : 3 ≤ R.frames) (hRl : 105 ≤ R.locals) (hret : ∀ (r : Int32) (t_current_n : Int32) (t_current_cells : Nat → Int32) (t_draft_n : Int32) (t_draft_cells : Nat → Int32) (t_peers : Nat → Int32) (t_twisting_values : Nat → Int32) (H : Heap) (locs : List Loc) (ls : Array Slot) (pc : Nat), va_P G vwCl (w_X10_group Y h_t B_t B_t_current B_t_draft B_t_twisting t_toldCount t_current_n t_current_cells t_draft_n t_draft_cells t_peers t_twisting_modulus t_twisting_values) H → va_D A (w_X10_group Y h_t B_t B_t_current B_t_draft B_t_twisting t_toldCount t_current_n t_current_cells t_draft_n t_draft_cells t_peers t_twisting_modulus t_twisting_values) → va_S A s.heap H locs → K r t_current_n t_current_cells t_draft_n t_draft_cells t_peers t_twisting_values → decode cX10_group pc = .ok (.ireturn, 1) → W p l e R s m args below meth c H locs 0 0 Q (F0 m pc ls [.int r])) (hP : va_P G vwCl (w_X10_group Y h_t B_t B_t_current B_t_draft B_t_twisting t_toldCount t_current_n t_current_cells t_draft_n t_draft_cells t_peers t_twisting_modulus t_twisting_values) s.heap) (hD : va_D A (w_X10_group Y h_t B_t B_t_current B_t_draft B_t_twisting t_toldCount t_current_n t_current_cells t_draft_n t_draft_cells t_peers t_twisting_modulus t_twisting_values)) (h : pX10_group t_current_n t_current_cells t_draft_n t_draft_cells t_peers t_twisting_values x1 K) : W p l e R s m args below meth c s.heap [] 0 0 Q (entryFrame m ([.ref h_t, .int x1] : List Value).toArray 6) := by
  have inX10 : ∀ w ∈ u_ws RX10 TX10 15, w ∈ wsX10_group := by decide +kernel
  have inX7 : ∀ w ∈ u_ws RX7 TX7 2, w ∈ wsX10_group := by decide +kernel
  have hf136 := hts (.fieldLink RX10 136 "RackBench" "FACTORIALS" "[I") (by decide +kernel)
  have hf18 := hts (.fieldLink RX10 18 "RackBench" "draft" "LRackBench$Table;") (by decide +kernel)
  have hf84 := hts (.fieldLink RX10 84 "RackBench" "peers" "[I") (by decide +kernel)
  have hl := lv_entry ([.ref h_t, .int x1]) (n := 6) (Nat.le_of_ble_eq_true rfl)
  rw [lg_entry_eq]
  generalize (lg_sl ([.ref h_t, .int x1]) ++ List.replicate (6 - (lg_sl ([.ref h_t, .int x1])).length) Slot.unset).toArray = ls at hl ⊢
  have hl : lv_has ls 6 [(0, .ref h_t), (1, .int x1)] := hl
  generalize hH0 : s.heap = H at hP ⊢
  have hS : va_S A s.heap H [] := by rw [← hH0]; exact va_S.rf
  clear hH0
  generalize ([] : List Loc) = locs at hS ⊢
  refine lv_iload_n hx hb dX10_group_0 rfl (lv_at hl 1 rfl) ?_
  obtain ⟨ht, hf⟩ := h
  refine lv_if_lt (tgt := 13) hx hb dX10_group_1 (by decide) (fun c9 => ?_) (fun c9 => ?_)
  · have h := ht c9
    refine lv_iconst (v := -1) hx hb dX10_group_13 (by decide) ?_
    exact hret (-1 : Int32) t_current_n t_current_cells t_draft_n t_draft_cells t_peers t_twisting_values H locs ls _ hP hD hS h dX10_group_14
  · have h := hf c9
    refine lv_iload_n hx hb dX10_group_4 rfl (lv_at hl 1 rfl) ?_
    refine va_gets hx hb hE.2.1 hS hown hf136 (fun _ h9 => h9) dX10_group_5 ?_
    refine lv_iconst (v := 4) hx hb dX10_group_8 (by decide) ?_
    obtain ⟨hin, h⟩ := h
    refine va_ti hx hb hE.2.2 hS hin rfl dX10_group_9 ?_
    obtain ⟨ht, hf⟩ := h
    refine lv_icmp_lt (tgt := 15) hx hb dX10_group_10 (by decide) (fun c9 => ?_) (fun c9 => ?_)
    · have h := ht c9
      refine lv_aload_n hx hb dX10_group_15 rfl (lv_at hl 0 rfl) ?_
      refine va_get (D := G) (ci := 9) (v := .ref (B_t 1)) (C := RX10) (T := TX10) (N := 15) hx hb hts inX10 hown hK hP 0 rfl rfl 1 (by decide) hf18 (fun _ h9 => h9) rfl dX10_group_16 ?_
      refine lv_aload_n hx hb dX10_group_19 rfl (lv_at hl 0 rfl) ?_
      refine lv_iload_n hx hb dX10_group_20 rfl (lv_at hl 1 rfl) ?_
      refine mc_iV ⟨hx, hb, hml, hown, hts⟩ hK hE hA hP hD hS (c_X10_gatherPeers l G Y tF H.size h_t B_t t_toldCount t_peers x1 h) (cwV 1 hts gX10_group_X10_gatherPeers rfl rfl rfl (by decide +kernel) ⟨Nat.le_trans (by decide) hRf, Nat.le_trans (by decide) hRl⟩) (fun u => (w_X10_group Y h_t B_t B_t_current B_t_draft B_t_twisting t_toldCount t_current_n t_current_cells t_draft_n t_draft_cells u t_twisting_modulus t_twisting_values)) [0, 5] [1, 2, 3, 4, 6, 7] [6, 0, 1, 2, 3, 7, 4, 5] rfl rfl rfl rfl (by decide) (fun _ => rfl) rfl 0 9 rfl rfl rfl rfl hl.1 rfl (Nat.le_of_ble_eq_true rfl) dX10_group_21 (fun r21 u H locs h hP hD hS => ?_)
      obtain ⟨t_peers_21, rfl⟩ : ∃ z, z = u := ⟨_, rfl⟩
      try dsimp only at h
      have hP : va_P G vwCl (w_X10_group Y h_t B_t B_t_current B_t_draft B_t_twisting t_toldCount t_current_n t_current_cells t_draft_n t_draft_cells t_peers_21 t_twisting_modulus t_twisting_values) H := hP
      have hD : va_D A (w_X10_group Y h_t B_t B_t_current B_t_draft B_t_twisting t_toldCount t_current_n t_current_cells t_draft_n t_draft_cells t_peers_21 t_twisting_modulus t_twisting_values) := hD
      refine va_putN (D := G) (ci := 6) (v := .int r21) (ty := .int) (C := RX7) (T := TX7) (N := 2) hx hb hts inX7 tyX7 tyX7_ok nmX7 hown hK hP hD hS 3 rfl rfl 1 (by decide) (hE.nest args 0 _ rfl) (fun _ h9 => h9) rfl (by decide +kernel) rfl rfl (Nat.le_of_ble_eq_true rfl) dX10_group_24 (fun H locs hP hD hS => ?_)
      have hP : va_P G vwCl (w_X10_group Y h_t B_t B_t_current B_t_draft B_t_twisting t_toldCount t_current_n t_current_cells r21 t_draft_cells t_peers_21 t_twisting_modulus t_twisting_values) H := hP
      have hD : va_D A (w_X10_group Y h_t B_t B_t_current B_t_draft B_t_twisting t_toldCount t_current_n t_current_cells r21 t_draft_cells t_peers_21 t_twisting_modulus t_twisting_values) := hD
      refine lv_iconst (v := 0) hx hb dX10_group_27 (by decide) ?_
      refine lv_istore_n (lv' := [(2, .int (0 : Int32)), (0, .ref h_t), (1, .int x1)]) hx hb dX10_group_28 rfl hl (by decide) rfl (fun ls hl => ?_)
      obtain ⟨I29, m29, hI29, hB29⟩ := h
      have L29 : ∀ (t_current_n : Int32) (t_current_cells : Nat → Int32) (t_draft_n : Int32) (t_peers : Nat → Int32) (t_twisting_values : Nat → Int32) (I29 : Int32 → (Nat → Int32) → Prop) (m29 : Int32 → (Nat → Int32) → Nat), (∀ (x2 : Int32) (t_draft_cells : Nat → Int32), I29 x2 t_draft_cells → pX10_group_29 K t_current_n t_current_cells t_draft_n t_peers t_twisting_values x2 t_draft_cells (fun x2' t_draft_cells' => I29 x2' t_draft_cells' ∧ m29 x2' t_draft_cells' < m29 x2 t_draft_cells)) → ∀ (n : Nat) (x2 : Int32) (t_draft_cells : Nat → Int32) (H : Heap) (locs : List Loc) (ls : Array Slot), I29 x2 t_draft_cells → m29 x2 t_draft_cells < n → va_P G vwCl (w_X10_group Y h_t B_t B_t_current B_t_draft B_t_twisting t_toldCount t_current_n t_current_cells t_draft_n t_draft_cells t_peers t_twisting_modulus t_twisting_values) H → va_D A (w_X10_group Y h_t B_t B_t_current B_t_draft B_t_twisting t_toldCount t_current_n t_current_cells t_draft_n t_draft_cells t_peers t_twisting_modulus t_twisting_values) → va_S A s.heap H locs → lv_has ls 6 [(0, .ref h_t), (2, .int x2)] → W p l e R s m args below meth c H locs 0 0 Q (F0 m 29 ls []) := by
        intro t_current_n t_current_cells t_draft_n t_peers t_twisting_values I29 m29 hB29 n
        induction n with
        | zero => intro x2 t_draft_cells H locs ls _ hm; exact absurd hm (Nat.not_lt_zero _)
        | succ n ih =>
          intro x2 t_draft_cells H locs ls hI hm hP hD hS hl
          obtain ⟨R29, h, rec29⟩ : ∃ R29 : Int32 → (Nat → Int32) → Prop, pX10_group_29 K t_current_n t_current_cells t_draft_n t_peers t_twisting_values x2 t_draft_cells R29 ∧ ∀ (x2 : Int32) (t_draft_cells : Nat → Int32) (H : Heap) (locs : List Loc) (ls : Array Slot), R29 x2 t_draft_cells → va_P G vwCl (w_X10_group Y h_t B_t B_t_current B_t_draft B_t_twisting t_toldCount t_current_n t_current_cells t_draft_n t_draft_cells t_peers t_twisting_modulus t_twisting_values) H → va_D A (w_X10_group Y h_t B_t B_t_current B_t_draft B_t_twisting t_toldCount t_current_n t_current_cells t_draft_n t_draft_cells t_peers t_twisting_modulus t_twisting_values) → va_S A s.heap H locs → lv_has ls 6 [(0, .ref h_t), (2, .int x2)] → W p l e R s m args below meth c H locs 0 0 Q (F0 m 29 ls []) := ⟨_, hB29 x2 t_draft_cells hI, fun x2 t_draft_cells H locs ls hh hP hD hS hl => ih x2 t_draft_cells H locs ls hh.1 (Nat.lt_of_lt_of_le hh.2 (Nat.le_of_lt_succ hm)) hP hD hS hl⟩
          refine lv_iload_n hx hb dX10_group_29 rfl (lv_at hl 1 rfl) ?_
          refine lv_aload_n hx hb dX10_group_30 rfl (lv_at hl 0 rfl) ?_
          refine va_get (D := G) (ci := 9) (v := .ref (B_t 1)) (C := RX10) (T := TX10) (N := 15) hx hb hts inX10 hown hK hP 0 rfl rfl 1 (by decide) hf18 (fun _ h9 => h9) rfl dX10_group_31 ?_
          refine va_getN (D := G) (ci := 6) (v := .int t_draft_n) (C := RX7) (T := TX7) (N := 2) hx hb hts inX7 hown hK hP 3 rfl rfl 1 (by decide) (hE.nest args 0 _ rfl) (fun _ h9 => h9) rfl dX10_group_34 ?_
          obtain ⟨ht, hf⟩ := h
          refine lv_icmp_ge (tgt := 125) hx hb dX10_group_37 (by decide) (fun c9 => ?_) (fun c9 => ?_)
          · have h := ht c9
            refine lv_aload_n hx hb dX10_group_125 rfl (lv_at hl 0 rfl) ?_
            refine mc_iV ⟨hx, hb, hml, hown, hts⟩ hK hE hA hP hD hS (c_X10_adoptDraft l G Y tF H.size h_t B_t B_t_current B_t_draft B_t_twisting t_toldCount t_current_n t_current_cells t_draft_n t_draft_cells t_twisting_modulus t_twisting_values h) (cwV 0 hts gX10_group_X10_adoptDraft rfl rfl rfl (by decide +kernel) ⟨Nat.le_trans (by decide) hRf, Nat.le_trans (by decide) hRl⟩) (fun u => (w_X10_group Y h_t B_t B_t_current B_t_draft B_t_twisting t_toldCount u.1 u.2.1 t_draft_n t_draft_cells t_peers t_twisting_modulus u.2.2)) [0, 1, 2, 3, 4, 6, 7] [5] [1, 2, 3, 4, 5, 0, 6, 7] rfl rfl rfl rfl (by decide) (fun _ => rfl) rfl 0 9 rfl rfl rfl rfl hl.1 rfl (Nat.le_of_ble_eq_true rfl) dX10_group_126 (fun r126 u H locs h hP hD hS => ?_)
            obtain ⟨t_current_n_126, t_current_cells_126, t_twisting_values_126⟩ := u
            try dsimp only at h
            have hP : va_P G vwCl (w_X10_group Y h_t B_t B_t_current B_t_draft B_t_twisting t_toldCount t_current_n_126 t_current_cells_126 t_draft_n t_draft_cells t_peers t_twisting_modulus t_twisting_values_126) H := hP
            have hD : va_D A (w_X10_group Y h_t B_t B_t_current B_t_draft B_t_twisting t_toldCount t_current_n_126 t_current_cells_126 t_draft_n t_draft_cells t_peers t_twisting_modulus t_twisting_values_126) := hD
            exact hret r126 t_current_n_126 t_current_cells_126 t_draft_n t_draft_cells t_peers t_twisting_values_126 H locs ls _ hP hD hS h dX10_group_129
          · have h := hf c9
            refine lv_aload_n hx hb dX10_group_40 rfl (lv_at hl 0 rfl) ?_
            refine va_get (D := G) (ci := 9) (v := .ref (B_t 12)) (C := RX10) (T := TX10) (N := 15) hx hb hts inX10 hown hK hP 0 rfl rfl 12 (by decide) hf84 (fun _ h9 => h9) rfl dX10_group_41 ?_
            refine lv_iload_n hx hb dX10_group_44 rfl (lv_at hl 1 rfl) ?_
            obtain ⟨hin, h⟩ := h
            refine va_iald hx hb hK hP 5 0 rfl rfl hin dX10_group_45 ?_
            refine lv_iconst (v := 4) hx hb dX10_group_46 (by decide) ?_
            refine mc_iS ⟨hx, hb, hml, hown, hts⟩ hK hE hA hP hD hS (c_X5_contrary l G Y tF H.size (t_peers (Int32.toNatClampNeg x2)) (4 : Int32) h) (va_cwS 2 hts gX10_group_X5_contrary rfl rfl rfl (by decide +kernel) ⟨Nat.le_trans (by decide) hRf, Nat.le_trans (by decide) hRl⟩) (fun u => (w_X10_group Y h_t B_t B_t_current B_t_draft B_t_twisting t_toldCount t_current_n t_current_cells t_draft_n t_draft_cells t_peers t_twisting_modulus t_twisting_values)) [] [0, 1, 2, 3, 4, 5, 6, 7] [0, 1, 2, 3, 4, 5, 6, 7] rfl rfl rfl rfl (by decide) (fun _ => rfl) rfl rfl hl.1 rfl (Nat.le_of_ble_eq_true rfl) dX10_group_47 (fun r47 u H locs h hP hD hS => ?_)
            try dsimp only at h
            have hP : va_P G vwCl (w_X10_group Y h_t B_t B_t_current B_t_draft B_t_twisting t_toldCount t_current_n t_current_cells t_draft_n t_draft_cells t_peers t_twisting_modulus t_twisting_values) H := hP
            have hD : va_D A (w_X10_group Y h_t B_t B_t_current B_t_draft B_t_twisting t_toldCount t_current_n t_current_cells t_draft_n t_draft_cells t_peers t_twisting_modulus t_twisting_values) := hD
            refine lv_istore_n (lv' := [(3, .int r47), (0, .ref h_t), (2, .int x2)]) hx hb dX10_group_50 rfl hl (by decide) rfl (fun ls hl => ?_)
            refine lv_iconst (v := 0) hx hb dX10_group_51 (by decide) ?_
            refine lv_istore (lv' := [(4, .int (0 : Int32)), (3, .int r47), (0, .ref h_t), (2, .int x2)]) hx hb dX10_group_52 hl (by decide) rfl (fun ls hl => ?_)
            obtain ⟨I54, m54, hI54, hB54⟩ := h
            have L54 : ∀ (x2 : Int32) (x3 : Int32) (I54 : Int32 → (Nat → Int32) → Prop) (m54 : Int32 → (Nat → Int32) → Nat), (∀ (x4 : Int32) (t_draft_cells : Nat → Int32), I54 x4 t_draft_cells → pX10_group_54 R29 K t_current_n t_current_cells t_draft_n t_peers t_twisting_values x2 x3 x4 t_draft_cells (fun x4' t_draft_cells' => I54 x4' t_draft_cells' ∧ m54 x4' t_draft_cells' < m54 x4 t_draft_cells)) → ∀ (n : Nat) (x4 : Int32) (t_draft_cells : Nat → Int32) (H : Heap) (locs : List Loc) (ls : Array Slot), I54 x4 t_draft_cells → m54 x4 t_draft_cells < n → va_P G vwCl (w_X10_group Y h_t B_t B_t_current B_t_draft B_t_twisting t_toldCount t_current_n t_current_cells t_draft_n t_draft_cells t_peers t_twisting_modulus t_twisting_values) H → va_D A (w_X10_group Y h_t B_t B_t_current B_t_draft B_t_twisting t_toldCount t_current_n t_current_cells t_draft_n t_draft_cells t_peers t_twisting_modulus t_twisting_values) → va_S A s.heap H locs → lv_has ls 6 [(0, .ref h_t), (2, .int x2), (3, .int x3), (4, .int x4)] → W p l e R s m args below meth c H locs 0 0 Q (F0 m 54 ls []) := by
              intro x2 x3 I54 m54 hB54 n
              induction n with
              | zero => intro x4 t_draft_cells H locs ls _ hm; exact absurd hm (Nat.not_lt_zero _)
              | succ n ih =>
                intro x4 t_draft_cells H locs ls hI hm hP hD hS hl
                obtain ⟨R54, h, rec54⟩ : ∃ R54 : Int32 → (Nat → Int32) → Prop, pX10_group_54 R29 K t_current_n t_current_cells t_draft_n t_peers t_twisting_values x2 x3 x4 t_draft_cells R54 ∧ ∀ (x4 : Int32) (t_draft_cells : Nat → Int32) (H : Heap) (locs : List Loc) (ls : Array Slot), R54 x4 t_draft_cells → va_P G vwCl (w_X10_group Y h_t B_t B_t_current B_t_draft B_t_twisting t_toldCount t_current_n t_current_cells t_draft_n t_draft_cells t_peers t_twisting_modulus t_twisting_values) H → va_D A (w_X10_group Y h_t B_t B_t_current B_t_draft B_t_twisting t_toldCount t_current_n t_current_cells t_draft_n t_draft_cells t_peers t_twisting_modulus t_twisting_values) → va_S A s.heap H locs → lv_has ls 6 [(0, .ref h_t), (2, .int x2), (3, .int x3), (4, .int x4)] → W p l e R s m args below meth c H locs 0 0 Q (F0 m 54 ls []) := ⟨_, hB54 x4 t_draft_cells hI, fun x4 t_draft_cells H locs ls hh hP hD hS hl => ih x4 t_draft_cells H locs ls hh.1 (Nat.lt_of_lt_of_le hh.2 (Nat.le_of_lt_succ hm)) hP hD hS hl⟩
                refine lv_iload hx hb dX10_group_54 (lv_at hl 3 rfl) ?_
                refine lv_aload_n hx hb dX10_group_56 rfl (lv_at hl 0 rfl) ?_
                refine va_get (D := G) (ci := 9) (v := .ref (B_t 1)) (C := RX10) (T := TX10) (N := 15) hx hb hts inX10 hown hK hP 0 rfl rfl 1 (by decide) hf18 (fun _ h9 => h9) rfl dX10_group_57 ?_
                refine va_getN (D := G) (ci := 6) (v := .int t_draft_n) (C := RX7) (T := TX7) (N := 2) hx hb hts inX7 hown hK hP 3 rfl rfl 1 (by decide) (hE.nest args 0 _ rfl) (fun _ h9 => h9) rfl dX10_group_60 ?_
                obtain ⟨ht, hf⟩ := h
                refine lv_icmp_ge (tgt := 119) hx hb dX10_group_63 (by decide) (fun c9 => ?_) (fun c9 => ?_)
                · have h := ht c9
                  refine lv_iinc (v := (x2 + 1)) (lv' := [(2, .int (x2 + 1)), (0, .ref h_t), (3, .int x3), (4, .int x4)]) hx hb dX10_group_119 hl (k := 1) rfl rfl (by decide) rfl (fun ls hl => ?_)
                  refine lv_goto (tgt := 29) hx hb dX10_group_122 (by decide) ?_
                  exact rec29 (x2 + 1) t_draft_cells H locs ls h hP hD hS (lv_sub hl [1, 0] rfl)
                · have h := hf c9
                  refine lv_aload_n hx hb dX10_group_66 rfl (lv_at hl 0 rfl) ?_
                  refine va_get (D := G) (ci := 9) (v := .ref (B_t 12)) (C := RX10) (T := TX10) (N := 15) hx hb hts inX10 hown hK hP 0 rfl rfl 12 (by decide) hf84 (fun _ h9 => h9) rfl dX10_group_67 ?_
                  refine lv_iload hx hb dX10_group_70 (lv_at hl 3 rfl) ?_
                  obtain ⟨hin, h⟩ := h
                  refine va_iald hx hb hK hP 5 0 rfl rfl hin dX10_group_72 ?_
                  refine lv_iload_n hx hb dX10_group_73 rfl (lv_at hl 2 rfl) ?_
                  refine lv_iconst (v := 4) hx hb dX10_group_74 (by decide) ?_
                  refine mc_iS ⟨hx, hb, hml, hown, hts⟩ hK hE hA hP hD hS (c_X5_after l G Y tF H.size (t_peers (Int32.toNatClampNeg x4)) x3 (4 : Int32) h) (va_cwS 3 hts gX10_group_X5_after rfl rfl rfl (by decide +kernel) ⟨Nat.le_trans (by decide) hRf, Nat.le_trans (by decide) hRl⟩) (fun u => (w_X10_group Y h_t B_t B_t_current B_t_draft B_t_twisting t_toldCount t_current_n t_current_cells t_draft_n t_draft_cells t_peers t_twisting_modulus t_twisting_values)) [] [0, 1, 2, 3, 4, 5, 6, 7] [0, 1, 2, 3, 4, 5, 6, 7] rfl rfl rfl rfl (by decide) (fun _ => rfl) rfl rfl hl.1 rfl (Nat.le_of_ble_eq_true rfl) dX10_group_75 (fun r75 u H locs h hP hD hS => ?_)
                  try dsimp only at h
                  have hP : va_P G vwCl (w_X10_group Y h_t B_t B_t_current B_t_draft B_t_twisting t_toldCount t_current_n t_current_cells t_draft_n t_draft_cells t_peers t_twisting_modulus t_twisting_values) H := hP
                  have hD : va_D A (w_X10_group Y h_t B_t B_t_current B_t_draft B_t_twisting t_toldCount t_current_n t_current_cells t_draft_n t_draft_cells t_peers t_twisting_modulus t_twisting_values) := hD
                  refine lv_istore (lv' := [(5, .int r75), (0, .ref h_t), (2, .int x2), (3, .int x3), (4, .int x4)]) hx hb dX10_group_78 hl (by decide) rfl (fun ls hl => ?_)
                  refine lv_aload_n hx hb dX10_group_80 rfl (lv_at hl 1 rfl) ?_
                  refine va_get (D := G) (ci := 9) (v := .ref (B_t 1)) (C := RX10) (T := TX10) (N := 15) hx hb hts inX10 hown hK hP 0 rfl rfl 1 (by decide) hf18 (fun _ h9 => h9) rfl dX10_group_81 ?_
                  refine lv_iload_n hx hb dX10_group_84 rfl (lv_at hl 2 rfl) ?_
                  refine lv_iload hx hb dX10_group_85 (lv_at hl 4 rfl) ?_
                  refine lv_aload_n hx hb dX10_group_87 rfl (lv_at hl 1 rfl) ?_
                  refine lv_aload_n hx hb dX10_group_88 rfl (lv_at hl 1 rfl) ?_
                  refine va_get (D := G) (ci := 9) (v := .ref (B_t 12)) (C := RX10) (T := TX10) (N := 15) hx hb hts inX10 hown hK hP 0 rfl rfl 12 (by decide) hf84 (fun _ h9 => h9) rfl dX10_group_89 ?_
                  refine lv_iload_n hx hb dX10_group_92 rfl (lv_at hl 2 rfl) ?_
                  obtain ⟨hin, h⟩ := h
                  refine va_iald hx hb hK hP 5 0 rfl rfl hin dX10_group_93 ?_
                  refine lv_iload hx hb dX10_group_94 (lv_at hl 0 rfl) ?_
                  refine lv_iconst (v := 4) hx hb dX10_group_96 (by decide) ?_
                  refine mc_iS ⟨hx, hb, hml, hown, hts⟩ hK hE hA hP hD hS (c_X5_after l G Y tF H.size (t_peers (Int32.toNatClampNeg x2)) r75 (4 : Int32) h) (va_cwS 3 hts gX10_group_X5_after rfl rfl rfl (by decide +kernel) ⟨Nat.le_trans (by decide) hRf, Nat.le_trans (by decide) hRl⟩) (fun u => (w_X10_group Y h_t B_t B_t_current B_t_draft B_t_twisting t_toldCount t_current_n t_current_cells t_draft_n t_draft_cells t_peers t_twisting_modulus t_twisting_values)) [] [0, 1, 2, 3, 4, 5, 6, 7] [0, 1, 2, 3, 4, 5, 6, 7] rfl rfl rfl rfl (by decide) (fun _ => rfl) rfl rfl hl.1 rfl (Nat.le_of_ble_eq_true rfl) dX10_group_97 (fun r97 u H locs h hP hD hS => ?_)
                  try dsimp only at h
                  have hP : va_P G vwCl (w_X10_group Y h_t B_t B_t_current B_t_draft B_t_twisting t_toldCount t_current_n t_current_cells t_draft_n t_draft_cells t_peers t_twisting_modulus t_twisting_values) H := hP
                  have hD : va_D A (w_X10_group Y h_t B_t B_t_current B_t_draft B_t_twisting t_toldCount t_current_n t_current_cells t_draft_n t_draft_cells t_peers t_twisting_modulus t_twisting_values) := hD
                  refine lv_aload_n hx hb dX10_group_100 rfl (lv_at hl 1 rfl) ?_
                  refine va_get (D := G) (ci := 9) (v := .ref (B_t 1)) (C := RX10) (T := TX10) (N := 15) hx hb hts inX10 hown hK hP 0 rfl rfl 1 (by decide) hf18 (fun _ h9 => h9) rfl dX10_group_101 ?_
                  refine va_getN (D := G) (ci := 6) (v := .int t_draft_n) (C := RX7) (T := TX7) (N := 2) hx hb hts inX7 hown hK hP 3 rfl rfl 1 (by decide) (hE.nest args 0 _ rfl) (fun _ h9 => h9) rfl dX10_group_104 ?_
                  refine mc_iV ⟨hx, hb, hml, hown, hts⟩ hK hE hA hP hD hS (c_X10_peerOf l G Y tF H.size h_t B_t t_toldCount t_peers r97 t_draft_n h) (cwV 2 hts gX10_group_X10_peerOf rfl rfl rfl (by decide +kernel) ⟨Nat.le_trans (by decide) hRf, Nat.le_trans (by decide) hRl⟩) (fun u => (w_X10_group Y h_t B_t B_t_current B_t_draft B_t_twisting t_toldCount t_current_n t_current_cells t_draft_n t_draft_cells t_peers t_twisting_modulus t_twisting_values)) [0, 5] [1, 2, 3, 4, 6, 7] [6, 0, 1, 2, 3, 7, 4, 5] rfl rfl rfl rfl (by decide) (fun _ => rfl) rfl 0 9 rfl rfl rfl rfl hl.1 rfl (Nat.le_of_ble_eq_true rfl) dX10_group_107 (fun r107 u H locs h hP hD hS => ?_)
                  try dsimp only at h
                  have hP : va_P G vwCl (w_X10_group Y h_t B_t B_t_current B_t_draft B_t_twisting t_toldCount t_current_n t_current_cells t_draft_n t_draft_cells t_peers t_twisting_modulus t_twisting_values) H := hP
                  have hD : va_D A (w_X10_group Y h_t B_t B_t_current B_t_draft B_t_twisting t_toldCount t_current_n t_current_cells t_draft_n t_draft_cells t_peers t_twisting_modulus t_twisting_values) := hD
                  refine mc_vV ⟨hx, hb, hml, hown, hts⟩ hK hE hA hP hD hS (c_X7_put l G Y tF H.size (B_t 1) B_t_draft t_draft_n t_draft_cells x2 x4 r107 h) (cwV 3 hts gX10_group_X7_put rfl rfl rfl (by decide +kernel) ⟨Nat.le_trans (by decide) hRf, Nat.le_trans (by decide) hRl⟩) (fun u => (w_X10_group Y h_t B_t B_t_current B_t_draft B_t_twisting t_toldCount t_current_n t_current_cells t_draft_n u t_peers t_twisting_modulus t_twisting_values)) [3, 4] [0, 1, 2, 5, 6, 7] [0, 1, 2, 6, 7, 3, 4, 5] rfl rfl rfl rfl (by decide) (fun _ => rfl) rfl 3 6 rfl rfl rfl rfl hl.1 rfl (Nat.le_of_ble_eq_true rfl) dX10_group_110 (fun u H locs h hP hD hS => ?_)
                  obtain ⟨t_draft_cells_110, rfl⟩ : ∃ z, z = u := ⟨_, rfl⟩
                  try dsimp only at h
                  have hP : va_P G vwCl (w_X10_group Y h_t B_t B_t_current B_t_draft B_t_twisting t_toldCount t_current_n t_current_cells t_draft_n t_draft_cells_110 t_peers t_twisting_modulus t_twisting_values) H := hP
                  have hD : va_D A (w_X10_group Y h_t B_t B_t_current B_t_draft B_t_twisting t_toldCount t_current_n t_current_cells t_draft_n t_draft_cells_110 t_peers t_twisting_modulus t_twisting_values) := hD
                  refine lv_iinc (v := (x4 + 1)) (lv' := [(4, .int (x4 + 1)), (5, .int r75), (0, .ref h_t), (2, .int x2), (3, .int x3)]) hx hb dX10_group_113 hl (k := 4) rfl rfl (by decide) rfl (fun ls hl => ?_)
                  refine lv_goto (tgt := 54) hx hb dX10_group_116 (by decide) ?_
                  exact rec54 (x4 + 1) t_draft_cells_110 H locs ls h hP hD hS (lv_sub hl [2, 3, 4, 0] rfl)
            exact L54 x2 r47 I54 m54 hB54 _ (0 : Int32) t_draft_cells H locs ls hI54 (Nat.lt_succ_self _) hP hD hS (lv_sub hl [2, 3, 1, 0] rfl)
      exact L29 t_current_n t_current_cells r21 t_peers_21 t_twisting_values I29 m29 hB29 _ (0 : Int32) t_draft_cells H locs ls hI29 (Nat.lt_succ_self _) hP hD hS (lv_sub hl [1, 0] rfl)
    · have h := hf c9
      refine lv_iconst (v := -1) hx hb dX10_group_13 (by decide) ?_
      exact hret (-1 : Int32) t_current_n t_current_cells t_draft_n t_draft_cells t_peers t_twisting_values H locs ls _ hP hD hS h dX10_group_14

set_option maxHeartbeats 4000000 in
set_option maxRecDepth 100000 in
theorem c_X10_group (l : Launch) (G : va_G) (Y : Nat → ClassId) (tF sz : Nat) (h_t : Nat) (B_t : Nat → Nat) (B_t_current : Nat → Nat) (B_t_draft : Nat → Nat) (B_t_twisting : Nat → Nat) (t_toldCount : Int32) (t_current_n : Int32) (t_current_cells : Nat → Int32) (t_draft_n : Int32) (t_draft_cells : Nat → Int32) (t_peers : Nat → Int32) (t_twisting_modulus : Int32) (t_twisting_values : Nat → Int32) (x1 : Int32) {K : Int32 → Int32 → (Nat → Int32) → Int32 → (Nat → Int32) → (Nat → Int32) → (Nat → Int32) → Prop} (h : pX10_group t_current_n t_current_cells t_draft_n t_draft_cells t_peers t_twisting_values x1 K) : Met l yX10_group wsX10_group ({ frames := 3, cells := 0, slots := 0, locals := 105 }) (PcM G Y tF sz (w_X10_group Y h_t B_t B_t_current B_t_draft B_t_twisting t_toldCount t_current_n t_current_cells t_draft_n t_draft_cells t_peers t_twisting_modulus t_twisting_values) [.ref h_t, .int x1]) (va_Qi (fun (r : Int32) (u : Int32 × (Nat → Int32) × Int32 × (Nat → Int32) × (Nat → Int32) × (Nat → Int32)) => K r u.1 u.2.1 u.2.2.1 u.2.2.2.1 u.2.2.2.2.1 u.2.2.2.2.2) (fun u t => BM G Y (va_A (w_X10_group Y h_t B_t B_t_current B_t_draft B_t_twisting t_toldCount t_current_n t_current_cells t_draft_n t_draft_cells t_peers t_twisting_modulus t_twisting_values) sz) (w_X10_group Y h_t B_t B_t_current B_t_draft B_t_twisting t_toldCount u.1 u.2.1 u.2.2.1 u.2.2.2.1 u.2.2.2.2.1 t_twisting_modulus u.2.2.2.2.2) t) (va_A (w_X10_group Y h_t B_t B_t_current B_t_draft B_t_twisting t_toldCount t_current_n t_current_cells t_draft_n t_draft_cells t_peers t_twisting_modulus t_twisting_values) sz)) 0 0 (va_A (w_X10_group Y h_t B_t B_t_current B_t_draft B_t_twisting t_toldCount t_current_n t_current_cells t_draft_n t_draft_cells t_peers t_twisting_modulus t_twisting_values) sz) := by
  refine Met.ofW (cc := cX10_group) (maxL := 6) (ret := (some .int)) (by decide +kernel) rfl ?_
  intro p e s m args below meth c s₁ B hml hv
  obtain ⟨rfl, hsz, hP, hK, hD0, hE⟩ := hv
  have hts := atoms_spec (ws := wsX10_group) B.pre
  have hown : s.vm.findClass RX10 = some m.cls := findClass_of_methodNamed B.named
  have hlocks := B.notSynchronized
  subst hsz
  have hD := hD0.self (sz := s.heap.size)
  exact wk_X10_group h_t B_t B_t_current B_t_draft B_t_twisting t_toldCount t_current_n t_current_cells t_draft_n t_draft_cells t_peers t_twisting_modulus t_twisting_values x1 B.exec B.bytes hml hown hts hK hE (fun q h => Or.inr h) (Nat.le_refl _) (Nat.le_refl _) (fun r t_current_n t_current_cells t_draft_n t_draft_cells t_peers t_twisting_values H locs ls pc hP hD hS hk hd => W.iret (v := r) B.exec B.bytes B.returns (fun t ht hW => ⟨⟨r, (t_current_n, t_current_cells, t_draft_n, t_draft_cells, t_peers, t_twisting_values), rfl, hk, by rw [ht]; exact hP, va_K.moved hW.alike hK, hD⟩, hS.F ht⟩) hS.2.2 hd) hP hD h

abbrev w_X10_isKeep (Y : Nat → ClassId) : va_W := []

set_option maxHeartbeats 4000000 in
set_option maxRecDepth 100000 in
theorem wk_X10_isKeep {p : Program} {l : Launch} {e : Env} {R : Room} {s : State} {m : MethodId} {args : Array Value} {below : List Frame} {meth : Method} {c : Code} {Q : State → Prop} {G : va_G} {Y : Nat → ClassId} {tF : Nat} {A : Nat → Prop} (x0 : Int32) {K : Int32 → Prop} (hx : p.tables.exec = Jvm.exec) (hb : c.code = cX10_isKeep) (hml : c.maxLocals = 1) (hown : s.vm.findClass RX10 = some m.cls) (hts : ∀ w ∈ wsX10_isKeep, w.before args s = true) (hK : va_K G vwCl (tyL Y) s) (hE : Ev A tF s) (hA : ∀ q, s.heap.size ≤ q → A q) (hRf : 0 ≤ R.frames) (hRl : 0 ≤ R.locals) (hret : ∀ (r : Int32)  (H : Heap) (locs : List Loc) (ls : Array Slot) (pc : Nat), va_P G vwCl (w_X10_isKeep Y) H → va_D A (w_X10_isKeep Y) → va_S A s.heap H locs → zb r → K r → decode cX10_isKeep pc = .ok (.ireturn, 1) → W p l e R s m args below meth c H locs 0 0 Q (F0 m pc ls [.int r])) (hP : va_P G vwCl (w_X10_isKeep Y) s.heap) (hD : va_D A (w_X10_isKeep Y)) (h : pX10_isKeep x0 K) : W p l e R s m args below meth c s.heap [] 0 0 Q (entryFrame m ([.int x0] : List Value).toArray 1) := by
  have hl := lv_entry ([.int x0]) (n := 1) (Nat.le_of_ble_eq_true rfl)
  rw [lg_entry_eq]
  generalize (lg_sl ([.int x0]) ++ List.replicate (1 - (lg_sl ([.int x0])).length) Slot.unset).toArray = ls at hl ⊢
  have hl : lv_has ls 1 [(0, .int x0)] := hl
  generalize hH0 : s.heap = H at hP ⊢
  have hS : va_S A s.heap H [] := by rw [← hH0]; exact va_S.rf
  clear hH0
  generalize ([] : List Loc) = locs at hS ⊢
  have J13 : ∀  (H : Heap) (locs : List Loc) (ls : Array Slot), pX10_isKeep_13 K → va_P G vwCl (w_X10_isKeep Y) H → va_D A (w_X10_isKeep Y) → va_S A s.heap H locs → lv_has ls 1 [] → W p l e R s m args below meth c H locs 0 0 Q (F0 m 13 ls []) := by
    intro  H locs ls h hP hD hS hl
    refine lv_iconst (v := 0) hx hb dX10_isKeep_13 (by decide) ?_
    obtain ⟨hz, h⟩ := h
    exact hret (0 : Int32)  H locs ls _ hP hD hS hz h dX10_isKeep_14
  refine lv_iload_n hx hb dX10_isKeep_0 rfl (lv_at hl 0 rfl) ?_
  obtain ⟨ht, hf⟩ := h
  refine lv_if_lt (tgt := 13) hx hb dX10_isKeep_1 (by decide) (fun c9 => ?_) (fun c9 => ?_)
  · have h := ht c9
    exact J13  H locs ls h hP hD hS (lv_sub hl [] rfl)
  · have h := hf c9
    refine lv_iload_n hx hb dX10_isKeep_4 rfl (lv_at hl 0 rfl) ?_
    refine lv_iconst (v := 4) hx hb dX10_isKeep_5 (by decide) ?_
    obtain ⟨ht, hf⟩ := h
    refine lv_icmp_ge (tgt := 13) hx hb dX10_isKeep_6 (by decide) (fun c9 => ?_) (fun c9 => ?_)
    · have h := ht c9
      exact J13  H locs ls h hP hD hS (lv_sub hl [] rfl)
    · have h := hf c9
      refine lv_iconst (v := 1) hx hb dX10_isKeep_9 (by decide) ?_
      refine lv_goto (tgt := 14) hx hb dX10_isKeep_10 (by decide) ?_
      obtain ⟨hz, h⟩ := h
      exact hret (1 : Int32)  H locs ls _ hP hD hS hz h dX10_isKeep_14

set_option maxHeartbeats 4000000 in
set_option maxRecDepth 100000 in
theorem c_X10_isKeep (l : Launch) (G : va_G) (Y : Nat → ClassId) (tF sz : Nat) (x0 : Int32) {K : Int32 → Prop} (h : pX10_isKeep x0 K) : Met l yX10_isKeep wsX10_isKeep ({ frames := 0, cells := 0, slots := 0, locals := 0 }) (PcM G Y tF sz (w_X10_isKeep Y) [.int x0]) (va_Qi (fun (r : Int32) (u : Unit) => K r ) (fun u t => BM G Y (va_A (w_X10_isKeep Y) sz) (w_X10_isKeep Y) t) (va_A (w_X10_isKeep Y) sz)) 0 0 (va_A (w_X10_isKeep Y) sz) := by
  refine Met.ofW (cc := cX10_isKeep) (maxL := 1) (ret := (some .boolean)) (by decide +kernel) rfl ?_
  intro p e s m args below meth c s₁ B hml hv
  obtain ⟨rfl, hsz, hP, hK, hD0, hE⟩ := hv
  have hts := atoms_spec (ws := wsX10_isKeep) B.pre
  have hown : s.vm.findClass RX10 = some m.cls := findClass_of_methodNamed B.named
  have hlocks := B.notSynchronized
  subst hsz
  have hD := hD0.self (sz := s.heap.size)
  exact wk_X10_isKeep x0 B.exec B.bytes hml hown hts hK hE (fun q h => Or.inr h) (Nat.le_refl _) (Nat.le_refl _) (fun r  H locs ls pc hP hD hS hz hk hd => W.zret (v := r) B.exec B.bytes B.returns hz.n (fun t ht hW => ⟨⟨r, (), rfl, hk, by rw [ht]; exact hP, va_K.moved hW.alike hK, hD⟩, hS.F ht⟩) hS.2.2 hd) hP hD h

abbrev w_X10_keep (Y : Nat → ClassId) (h_t : Nat) (B_t : Nat → Nat) (B_t_current : Nat → Nat) (B_t_keeps : Nat → Nat) (B_t_keeps_e : Nat → Nat → Nat) (t_toldCount : Int32) (t_current_n : Int32) (t_current_cells : Nat → Int32) (t_keeps_n : Nat → Int32) (t_keeps_cells : Nat → Nat → Int32) : va_W := [(h_t, .inr (9, [.ref (B_t 0), .ref (B_t 1), .ref (B_t 2), .ref (B_t 3), .ref (B_t 4), .ref (B_t 5), .ref (B_t 6), .ref (B_t 7), .ref (B_t 8), .ref (B_t 9), .ref (B_t 10), .ref (B_t 11), .ref (B_t 12), .ref (B_t 13), .int t_toldCount])), ((B_t 0), .inr (6, [.ref (B_t_current 0), .int t_current_n])), ((B_t_current 0), .inl (Y 0, 64, .inl t_current_cells)), ((B_t 3), .inl (Y 2, 4, .inr (.inr (.inr (.inr (fun i => if i < 4 then some (B_t_keeps i) else none)))))), ((B_t_keeps 0), .inr (6, [.ref ((B_t_keeps_e 0) 0), .int (t_keeps_n 0)])), (((B_t_keeps_e 0) 0), .inl (Y 0, 64, .inl (t_keeps_cells 0))), ((B_t_keeps 1), .inr (6, [.ref ((B_t_keeps_e 1) 0), .int (t_keeps_n 1)])), (((B_t_keeps_e 1) 0), .inl (Y 0, 64, .inl (t_keeps_cells 1))), ((B_t_keeps 2), .inr (6, [.ref ((B_t_keeps_e 2) 0), .int (t_keeps_n 2)])), (((B_t_keeps_e 2) 0), .inl (Y 0, 64, .inl (t_keeps_cells 2))), ((B_t_keeps 3), .inr (6, [.ref ((B_t_keeps_e 3) 0), .int (t_keeps_n 3)])), (((B_t_keeps_e 3) 0), .inl (Y 0, 64, .inl (t_keeps_cells 3)))]

set_option maxHeartbeats 4000000 in
set_option maxRecDepth 100000 in
theorem wk_X10_keep {p : Program} {l : Launch} {e : Env} {R : Room} {s : State} {m : MethodId} {args : Array Value} {below : List Frame} {meth : Method} {c : Code} {Q : State → Prop} {G : va_G} {Y : Nat → ClassId} {tF : Nat} {A : Nat → Prop} (h_t : Nat) (B_t : Nat → Nat) (B_t_current : Nat → Nat) (B_t_keeps : Nat → Nat) (B_t_keeps_e : Nat → Nat → Nat) (t_toldCount : Int32) (t_current_n : Int32) (t_current_cells : Nat → Int32) (t_keeps_n : Nat → Int32) (t_keeps_cells : Nat → Nat → Int32) (x1 : Int32) {K : Int32 → (Nat → Int32) → (Nat → Nat → Int32) → Prop} (hx : p.tables.exec = Jvm.exec) (hb : c.code = cX10_keep) (hml : c.maxLocals = 2) (hown : s.vm.findClass RX10 = some m.cls) (hts : ∀ w ∈ wsX10_keep, w.before args s = true) (hK : va_K G vwCl (tyL Y) s) (hE : Ev A tF s) (hA : ∀ q, s.heap.size ≤ q → A q) (hRf : 2 ≤ R.frames) (hRl : 85 ≤ R.locals) (hret : ∀ (r : Int32) (t_keeps_n : Nat → Int32) (t_keeps_cells : Nat → Nat → Int32) (H : Heap) (locs : List Loc) (ls : Array Slot) (pc : Nat), va_P G vwCl (w_X10_keep Y h_t B_t B_t_current B_t_keeps B_t_keeps_e t_toldCount t_current_n t_current_cells t_keeps_n t_keeps_cells) H → va_D A (w_X10_keep Y h_t B_t B_t_current B_t_keeps B_t_keeps_e t_toldCount t_current_n t_current_cells t_keeps_n t_keeps_cells) → va_S A s.heap H locs → zb r → K r t_keeps_n t_keeps_cells → decode cX10_keep pc = .ok (.ireturn, 1) → W p l e R s m args below meth c H locs 0 0 Q (F0 m pc ls [.int r])) (hP : va_P G vwCl (w_X10_keep Y h_t B_t B_t_current B_t_keeps B_t_keeps_e t_toldCount t_current_n t_current_cells t_keeps_n t_keeps_cells) s.heap) (hD : va_D A (w_X10_keep Y h_t B_t B_t_current B_t_keeps B_t_keeps_e t_toldCount t_current_n t_current_cells t_keeps_n t_keeps_cells)) (h : pX10_keep t_current_n t_current_cells t_keeps_n t_keeps_cells x1 K) : W p l e R s m args below meth c s.heap [] 0 0 Q (entryFrame m ([.ref h_t, .int x1] : List Value).toArray 2) := by
  have inX10 : ∀ w ∈ u_ws RX10 TX10 15, w ∈ wsX10_keep := by decide +kernel
  have hf14 := hts (.fieldLink RX10 14 "RackBench" "current" "LRackBench$Table;") (by decide +kernel)
  have hf24 := hts (.fieldLink RX10 24 "RackBench" "keeps" "[LRackBench$Table;") (by decide +kernel)
  have hl := lv_entry ([.ref h_t, .int x1]) (n := 2) (Nat.le_of_ble_eq_true rfl)
  rw [lg_entry_eq]
  generalize (lg_sl ([.ref h_t, .int x1]) ++ List.replicate (2 - (lg_sl ([.ref h_t, .int x1])).length) Slot.unset).toArray = ls at hl ⊢
  have hl : lv_has ls 2 [(0, .ref h_t), (1, .int x1)] := hl
  generalize hH0 : s.heap = H at hP ⊢
  have hS : va_S A s.heap H [] := by rw [← hH0]; exact va_S.rf
  clear hH0
  generalize ([] : List Loc) = locs at hS ⊢
  refine lv_iload_n hx hb dX10_keep_0 rfl (lv_at hl 1 rfl) ?_
  refine mc_iS ⟨hx, hb, hml, hown, hts⟩ hK hE hA hP hD hS (c_X10_isKeep l G Y tF H.size x1 h) (va_cwS 1 hts gX10_keep_X10_isKeep rfl rfl rfl (by decide +kernel) ⟨Nat.le_trans (by decide) hRf, Nat.le_trans (by decide) hRl⟩) (fun u => (w_X10_keep Y h_t B_t B_t_current B_t_keeps B_t_keeps_e t_toldCount t_current_n t_current_cells t_keeps_n t_keeps_cells)) [] [0, 1, 2, 3, 4, 5, 6, 7, 8, 9, 10, 11] [0, 1, 2, 3, 4, 5, 6, 7, 8, 9, 10, 11] rfl rfl rfl rfl (by decide) (fun _ => rfl) rfl rfl hl.1 rfl (Nat.le_of_ble_eq_true rfl) dX10_keep_1 (fun r1 u H locs h hP hD hS => ?_)
  try dsimp only at h
  have hP : va_P G vwCl (w_X10_keep Y h_t B_t B_t_current B_t_keeps B_t_keeps_e t_toldCount t_current_n t_current_cells t_keeps_n t_keeps_cells) H := hP
  have hD : va_D A (w_X10_keep Y h_t B_t B_t_current B_t_keeps B_t_keeps_e t_toldCount t_current_n t_current_cells t_keeps_n t_keeps_cells) := hD
  obtain ⟨ht, hf⟩ := h
  refine lv_if_ne (tgt := 9) hx hb dX10_keep_4 (by decide) (fun c9 => ?_) (fun c9 => ?_)
  · have h := ht c9
    refine lv_aload_n hx hb dX10_keep_9 rfl (lv_at hl 0 rfl) ?_
    refine va_get (D := G) (ci := 9) (v := .ref (B_t 3)) (C := RX10) (T := TX10) (N := 15) hx hb hts inX10 hown hK hP 0 rfl rfl 3 (by decide) hf24 (fun _ h9 => h9) rfl dX10_keep_10 ?_
    refine lv_iload_n hx hb dX10_keep_13 rfl (lv_at hl 1 rfl) ?_
    obtain ⟨hin, h⟩ := h
    refine va_aldq hx hb hK hP 3 2 rfl rfl hin dX10_keep_14 ?_
    obtain ⟨j9, hj9, e9⟩ := vp_in_of hin (by decide)
    have e8 : Int32.toNatClampNeg x1 = j9 := by rw [e9]; exact nI_clamp (by omega)
    simp only [e8]
    have e70 : t_keeps_n (Int32.toNatClampNeg x1) = t_keeps_n j9 := by rw [e8]
    have e60 : ∀ v9, va_up t_keeps_n (Int32.toNatClampNeg x1) v9 = va_up t_keeps_n j9 v9 := by intro v9; rw [e8]
    have e71 : t_keeps_cells (Int32.toNatClampNeg x1) = t_keeps_cells j9 := by rw [e8]
    have e61 : ∀ v9, va_up t_keeps_cells (Int32.toNatClampNeg x1) v9 = va_up t_keeps_cells j9 v9 := by intro v9; rw [e8]
    try simp only [e70, e71, e60, e61] at h
    clear e70 e60 e71 e61
    clear hin e9
    rcases (show j9 = 0 ∨ j9 = 1 ∨ j9 = 2 ∨ j9 = 3 by omega) with rfl | rfl | rfl | rfl
    · clear hj9
      refine W.eq (g2 := F0 m 15 ls [.ref (B_t_keeps 0)]) rfl ?_
      refine lv_aload_n hx hb dX10_keep_15 rfl (lv_at hl 0 rfl) ?_
      refine va_get (D := G) (ci := 9) (v := .ref (B_t 0)) (C := RX10) (T := TX10) (N := 15) hx hb hts inX10 hown hK hP 0 rfl rfl 0 (by decide) hf14 (fun _ h9 => h9) rfl dX10_keep_16 ?_
      refine mc_vV ⟨hx, hb, hml, hown, hts⟩ hK hE hA hP hD hS (c_X7_copy l G Y tF H.size (B_t_keeps 0) (B_t 0) (B_t_keeps_e 0) B_t_current (t_keeps_n 0) (t_keeps_cells 0) t_current_n t_current_cells h) (cwV 1 hts gX10_keep_X7_copy rfl rfl rfl (by decide +kernel) ⟨Nat.le_trans (by decide) hRf, Nat.le_trans (by decide) hRl⟩) (fun u => (w_X10_keep Y h_t B_t B_t_current B_t_keeps B_t_keeps_e t_toldCount t_current_n t_current_cells (va_up t_keeps_n 0 u.1) (va_up t_keeps_cells 0 u.2))) [4, 5, 1, 2] [0, 3, 6, 7, 8, 9, 10, 11] [0, 10, 11, 1, 8, 9, 2, 3, 4, 5, 6, 7] rfl rfl rfl rfl (by decide) (fun _ => rfl) rfl 4 6 rfl rfl rfl rfl hl.1 rfl (Nat.le_of_ble_eq_true rfl) dX10_keep_19 (fun u H locs h hP hD hS => ?_)
      obtain ⟨t_keeps_n_19, t_keeps_cells_19⟩ := u
      try dsimp only at h
      have hP : va_P G vwCl (w_X10_keep Y h_t B_t B_t_current B_t_keeps B_t_keeps_e t_toldCount t_current_n t_current_cells (va_up t_keeps_n 0 t_keeps_n_19) (va_up t_keeps_cells 0 t_keeps_cells_19)) H := hP
      have hD : va_D A (w_X10_keep Y h_t B_t B_t_current B_t_keeps B_t_keeps_e t_toldCount t_current_n t_current_cells (va_up t_keeps_n 0 t_keeps_n_19) (va_up t_keeps_cells 0 t_keeps_cells_19)) := hD
      refine lv_iconst (v := 1) hx hb dX10_keep_22 (by decide) ?_
      obtain ⟨hz, h⟩ := h
      exact hret (1 : Int32) (va_up t_keeps_n 0 t_keeps_n_19) (va_up t_keeps_cells 0 t_keeps_cells_19) H locs ls _ hP hD hS hz h dX10_keep_23
    · clear hj9
      refine W.eq (g2 := F0 m 15 ls [.ref (B_t_keeps 1)]) rfl ?_
      refine lv_aload_n hx hb dX10_keep_15 rfl (lv_at hl 0 rfl) ?_
      refine va_get (D := G) (ci := 9) (v := .ref (B_t 0)) (C := RX10) (T := TX10) (N := 15) hx hb hts inX10 hown hK hP 0 rfl rfl 0 (by decide) hf14 (fun _ h9 => h9) rfl dX10_keep_16 ?_
      refine mc_vV ⟨hx, hb, hml, hown, hts⟩ hK hE hA hP hD hS (c_X7_copy l G Y tF H.size (B_t_keeps 1) (B_t 0) (B_t_keeps_e 1) B_t_current (t_keeps_n 1) (t_keeps_cells 1) t_current_n t_current_cells h) (cwV 1 hts gX10_keep_X7_copy rfl rfl rfl (by decide +kernel) ⟨Nat.le_trans (by decide) hRf, Nat.le_trans (by decide) hRl⟩) (fun u => (w_X10_keep Y h_t B_t B_t_current B_t_keeps B_t_keeps_e t_toldCount t_current_n t_current_cells (va_up t_keeps_n 1 u.1) (va_up t_keeps_cells 1 u.2))) [6, 7, 1, 2] [0, 3, 4, 5, 8, 9, 10, 11] [0, 10, 11, 1, 2, 3, 8, 9, 4, 5, 6, 7] rfl rfl rfl rfl (by decide) (fun _ => rfl) rfl 6 6 rfl rfl rfl rfl hl.1 rfl (Nat.le_of_ble_eq_true rfl) dX10_keep_19 (fun u H locs h hP hD hS => ?_)
      obtain ⟨t_keeps_n_19, t_keeps_cells_19⟩ := u
      try dsimp only at h
      have hP : va_P G vwCl (w_X10_keep Y h_t B_t B_t_current B_t_keeps B_t_keeps_e t_toldCount t_current_n t_current_cells (va_up t_keeps_n 1 t_keeps_n_19) (va_up t_keeps_cells 1 t_keeps_cells_19)) H := hP
      have hD : va_D A (w_X10_keep Y h_t B_t B_t_current B_t_keeps B_t_keeps_e t_toldCount t_current_n t_current_cells (va_up t_keeps_n 1 t_keeps_n_19) (va_up t_keeps_cells 1 t_keeps_cells_19)) := hD
      refine lv_iconst (v := 1) hx hb dX10_keep_22 (by decide) ?_
      obtain ⟨hz, h⟩ := h
      exact hret (1 : Int32) (va_up t_keeps_n 1 t_keeps_n_19) (va_up t_keeps_cells 1 t_keeps_cells_19) H locs ls _ hP hD hS hz h dX10_keep_23
    · clear hj9
      refine W.eq (g2 := F0 m 15 ls [.ref (B_t_keeps 2)]) rfl ?_
      refine lv_aload_n hx hb dX10_keep_15 rfl (lv_at hl 0 rfl) ?_
      refine va_get (D := G) (ci := 9) (v := .ref (B_t 0)) (C := RX10) (T := TX10) (N := 15) hx hb hts inX10 hown hK hP 0 rfl rfl 0 (by decide) hf14 (fun _ h9 => h9) rfl dX10_keep_16 ?_
      refine mc_vV ⟨hx, hb, hml, hown, hts⟩ hK hE hA hP hD hS (c_X7_copy l G Y tF H.size (B_t_keeps 2) (B_t 0) (B_t_keeps_e 2) B_t_current (t_keeps_n 2) (t_keeps_cells 2) t_current_n t_current_cells h) (cwV 1 hts gX10_keep_X7_copy rfl rfl rfl (by decide +kernel) ⟨Nat.le_trans (by decide) hRf, Nat.le_trans (by decide) hRl⟩) (fun u => (w_X10_keep Y h_t B_t B_t_current B_t_keeps B_t_keeps_e t_toldCount t_current_n t_current_cells (va_up t_keeps_n 2 u.1) (va_up t_keeps_cells 2 u.2))) [8, 9, 1, 2] [0, 3, 4, 5, 6, 7, 10, 11] [0, 10, 11, 1, 2, 3, 4, 5, 8, 9, 6, 7] rfl rfl rfl rfl (by decide) (fun _ => rfl) rfl 8 6 rfl rfl rfl rfl hl.1 rfl (Nat.le_of_ble_eq_true rfl) dX10_keep_19 (fun u H locs h hP hD hS => ?_)
      obtain ⟨t_keeps_n_19, t_keeps_cells_19⟩ := u
      try dsimp only at h
      have hP : va_P G vwCl (w_X10_keep Y h_t B_t B_t_current B_t_keeps B_t_keeps_e t_toldCount t_current_n t_current_cells (va_up t_keeps_n 2 t_keeps_n_19) (va_up t_keeps_cells 2 t_keeps_cells_19)) H := hP
      have hD : va_D A (w_X10_keep Y h_t B_t B_t_current B_t_keeps B_t_keeps_e t_toldCount t_current_n t_current_cells (va_up t_keeps_n 2 t_keeps_n_19) (va_up t_keeps_cells 2 t_keeps_cells_19)) := hD
      refine lv_iconst (v := 1) hx hb dX10_keep_22 (by decide) ?_
      obtain ⟨hz, h⟩ := h
      exact hret (1 : Int32) (va_up t_keeps_n 2 t_keeps_n_19) (va_up t_keeps_cells 2 t_keeps_cells_19) H locs ls _ hP hD hS hz h dX10_keep_23
    · clear hj9
      refine W.eq (g2 := F0 m 15 ls [.ref (B_t_keeps 3)]) rfl ?_
      refine lv_aload_n hx hb dX10_keep_15 rfl (lv_at hl 0 rfl) ?_
      refine va_get (D := G) (ci := 9) (v := .ref (B_t 0)) (C := RX10) (T := TX10) (N := 15) hx hb hts inX10 hown hK hP 0 rfl rfl 0 (by decide) hf14 (fun _ h9 => h9) rfl dX10_keep_16 ?_
      refine mc_vV ⟨hx, hb, hml, hown, hts⟩ hK hE hA hP hD hS (c_X7_copy l G Y tF H.size (B_t_keeps 3) (B_t 0) (B_t_keeps_e 3) B_t_current (t_keeps_n 3) (t_keeps_cells 3) t_current_n t_current_cells h) (cwV 1 hts gX10_keep_X7_copy rfl rfl rfl (by decide +kernel) ⟨Nat.le_trans (by decide) hRf, Nat.le_trans (by decide) hRl⟩) (fun u => (w_X10_keep Y h_t B_t B_t_current B_t_keeps B_t_keeps_e t_toldCount t_current_n t_current_cells (va_up t_keeps_n 3 u.1) (va_up t_keeps_cells 3 u.2))) [10, 11, 1, 2] [0, 3, 4, 5, 6, 7, 8, 9] [0, 10, 11, 1, 2, 3, 4, 5, 6, 7, 8, 9] rfl rfl rfl rfl (by decide) (fun _ => rfl) rfl 10 6 rfl rfl rfl rfl hl.1 rfl (Nat.le_of_ble_eq_true rfl) dX10_keep_19 (fun u H locs h hP hD hS => ?_)
      obtain ⟨t_keeps_n_19, t_keeps_cells_19⟩ := u
      try dsimp only at h
      have hP : va_P G vwCl (w_X10_keep Y h_t B_t B_t_current B_t_keeps B_t_keeps_e t_toldCount t_current_n t_current_cells (va_up t_keeps_n 3 t_keeps_n_19) (va_up t_keeps_cells 3 t_keeps_cells_19)) H := hP
      have hD : va_D A (w_X10_keep Y h_t B_t B_t_current B_t_keeps B_t_keeps_e t_toldCount t_current_n t_current_cells (va_up t_keeps_n 3 t_keeps_n_19) (va_up t_keeps_cells 3 t_keeps_cells_19)) := hD
      refine lv_iconst (v := 1) hx hb dX10_keep_22 (by decide) ?_
      obtain ⟨hz, h⟩ := h
      exact hret (1 : Int32) (va_up t_keeps_n 3 t_keeps_n_19) (va_up t_keeps_cells 3 t_keeps_cells_19) H locs ls _ hP hD hS hz h dX10_keep_23
  · have h := hf c9
    refine lv_iconst (v := 0) hx hb dX10_keep_7 (by decide) ?_
    obtain ⟨hz, h⟩ := h
    exact hret (0 : Int32) t_keeps_n t_keeps_cells H locs ls _ hP hD hS hz h dX10_keep_8

set_option maxHeartbeats 4000000 in
set_option maxRecDepth 100000 in
theorem c_X10_keep (l : Launch) (G : va_G) (Y : Nat → ClassId) (tF sz : Nat) (h_t : Nat) (B_t : Nat → Nat) (B_t_current : Nat → Nat) (B_t_keeps : Nat → Nat) (B_t_keeps_e : Nat → Nat → Nat) (t_toldCount : Int32) (t_current_n : Int32) (t_current_cells : Nat → Int32) (t_keeps_n : Nat → Int32) (t_keeps_cells : Nat → Nat → Int32) (x1 : Int32) {K : Int32 → (Nat → Int32) → (Nat → Nat → Int32) → Prop} (h : pX10_keep t_current_n t_current_cells t_keeps_n t_keeps_cells x1 K) : Met l yX10_keep wsX10_keep ({ frames := 2, cells := 0, slots := 0, locals := 85 }) (PcM G Y tF sz (w_X10_keep Y h_t B_t B_t_current B_t_keeps B_t_keeps_e t_toldCount t_current_n t_current_cells t_keeps_n t_keeps_cells) [.ref h_t, .int x1]) (va_Qi (fun (r : Int32) (u : (Nat → Int32) × (Nat → Nat → Int32)) => K r u.1 u.2) (fun u t => BM G Y (va_A (w_X10_keep Y h_t B_t B_t_current B_t_keeps B_t_keeps_e t_toldCount t_current_n t_current_cells t_keeps_n t_keeps_cells) sz) (w_X10_keep Y h_t B_t B_t_current B_t_keeps B_t_keeps_e t_toldCount t_current_n t_current_cells u.1 u.2) t) (va_A (w_X10_keep Y h_t B_t B_t_current B_t_keeps B_t_keeps_e t_toldCount t_current_n t_current_cells t_keeps_n t_keeps_cells) sz)) 0 0 (va_A (w_X10_keep Y h_t B_t B_t_current B_t_keeps B_t_keeps_e t_toldCount t_current_n t_current_cells t_keeps_n t_keeps_cells) sz) := by
  refine Met.ofW (cc := cX10_keep) (maxL := 2) (ret := (some .boolean)) (by decide +kernel) rfl ?_
  intro p e s m args below meth c s₁ B hml hv
  obtain ⟨rfl, hsz, hP, hK, hD0, hE⟩ := hv
  have hts := atoms_spec (ws := wsX10_keep) B.pre
  have hown : s.vm.findClass RX10 = some m.cls := findClass_of_methodNamed B.named
  have hlocks := B.notSynchronized
  subst hsz
  have hD := hD0.self (sz := s.heap.size)
  exact wk_X10_keep h_t B_t B_t_current B_t_keeps B_t_keeps_e t_toldCount t_current_n t_current_cells t_keeps_n t_keeps_cells x1 B.exec B.bytes hml hown hts hK hE (fun q h => Or.inr h) (Nat.le_refl _) (Nat.le_refl _) (fun r t_keeps_n t_keeps_cells H locs ls pc hP hD hS hz hk hd => W.zret (v := r) B.exec B.bytes B.returns hz.n (fun t ht hW => ⟨⟨r, (t_keeps_n, t_keeps_cells), rfl, hk, by rw [ht]; exact hP, va_K.moved hW.alike hK, hD⟩, hS.F ht⟩) hS.2.2 hd) hP hD h

abbrev w_X10_isFilled (Y : Nat → ClassId) (h_t : Nat) (B_t : Nat → Nat) (B_t_keeps : Nat → Nat) (B_t_keeps_e : Nat → Nat → Nat) (t_toldCount : Int32) (t_keeps_n : Nat → Int32) : va_W := [(h_t, .inr (9, [.ref (B_t 0), .ref (B_t 1), .ref (B_t 2), .ref (B_t 3), .ref (B_t 4), .ref (B_t 5), .ref (B_t 6), .ref (B_t 7), .ref (B_t 8), .ref (B_t 9), .ref (B_t 10), .ref (B_t 11), .ref (B_t 12), .ref (B_t 13), .int t_toldCount])), ((B_t 3), .inl (Y 2, 4, .inr (.inr (.inr (.inr (fun i => if i < 4 then some (B_t_keeps i) else none)))))), ((B_t_keeps 0), .inr (6, [.ref ((B_t_keeps_e 0) 0), .int (t_keeps_n 0)])), ((B_t_keeps 1), .inr (6, [.ref ((B_t_keeps_e 1) 0), .int (t_keeps_n 1)])), ((B_t_keeps 2), .inr (6, [.ref ((B_t_keeps_e 2) 0), .int (t_keeps_n 2)])), ((B_t_keeps 3), .inr (6, [.ref ((B_t_keeps_e 3) 0), .int (t_keeps_n 3)]))]

set_option maxHeartbeats 4000000 in
set_option maxRecDepth 100000 in
theorem wk_X10_isFilled {p : Program} {l : Launch} {e : Env} {R : Room} {s : State} {m : MethodId} {args : Array Value} {below : List Frame} {meth : Method} {c : Code} {Q : State → Prop} {G : va_G} {Y : Nat → ClassId} {tF : Nat} {A : Nat → Prop} (h_t : Nat) (B_t : Nat → Nat) (B_t_keeps : Nat → Nat) (B_t_keeps_e : Nat → Nat → Nat) (t_toldCount : Int32) (t_keeps_n : Nat → Int32) (x1 : Int32) {K : Int32 → Prop} (hx : p.tables.exec = Jvm.exec) (hb : c.code = cX10_isFilled) (hml : c.maxLocals = 2) (hown : s.vm.findClass RX10 = some m.cls) (hts : ∀ w ∈ wsX10_isFilled, w.before args s = true) (hK : va_K G vwCl (tyL Y) s) (hE : Ev A tF s) (hA : ∀ q, s.heap.size ≤ q → A q) (hRf : 1 ≤ R.frames) (hRl : 20 ≤ R.locals) (hret : ∀ (r : Int32)  (H : Heap) (locs : List Loc) (ls : Array Slot) (pc : Nat), va_P G vwCl (w_X10_isFilled Y h_t B_t B_t_keeps B_t_keeps_e t_toldCount t_keeps_n) H → va_D A (w_X10_isFilled Y h_t B_t B_t_keeps B_t_keeps_e t_toldCount t_keeps_n) → va_S A s.heap H locs → zb r → K r → decode cX10_isFilled pc = .ok (.ireturn, 1) → W p l e R s m args below meth c H locs 0 0 Q (F0 m pc ls [.int r])) (hP : va_P G vwCl (w_X10_isFilled Y h_t B_t B_t_keeps B_t_keeps_e t_toldCount t_keeps_n) s.heap) (hD : va_D A (w_X10_isFilled Y h_t B_t B_t_keeps B_t_keeps_e t_toldCount t_keeps_n)) (h : pX10_isFilled t_keeps_n x1 K) : W p l e R s m args below meth c s.heap [] 0 0 Q (entryFrame m ([.ref h_t, .int x1] : List Value).toArray 2) := by
  have inX10 : ∀ w ∈ u_ws RX10 TX10 15, w ∈ wsX10_isFilled := by decide +kernel
  have inX7 : ∀ w ∈ u_ws RX7 TX7 2, w ∈ wsX10_isFilled := by decide +kernel
  have hf24 := hts (.fieldLink RX10 24 "RackBench" "keeps" "[LRackBench$Table;") (by decide +kernel)
  have hl := lv_entry ([.ref h_t, .int x1]) (n := 2) (Nat.le_of_ble_eq_true rfl)
  rw [lg_entry_eq]
  generalize (lg_sl ([.ref h_t, .int x1]) ++ List.replicate (2 - (lg_sl ([.ref h_t, .int x1])).length) Slot.unset).toArray = ls at hl ⊢
  have hl : lv_has ls 2 [(0, .ref h_t), (1, .int x1)] := hl
  generalize hH0 : s.heap = H at hP ⊢
  have hS : va_S A s.heap H [] := by rw [← hH0]; exact va_S.rf
  clear hH0
  generalize ([] : List Loc) = locs at hS ⊢
  have J23 : ∀  (H : Heap) (locs : List Loc) (ls : Array Slot), pX10_isFilled_23 t_keeps_n K → va_P G vwCl (w_X10_isFilled Y h_t B_t B_t_keeps B_t_keeps_e t_toldCount t_keeps_n) H → va_D A (w_X10_isFilled Y h_t B_t B_t_keeps B_t_keeps_e t_toldCount t_keeps_n) → va_S A s.heap H locs → lv_has ls 2 [] → W p l e R s m args below meth c H locs 0 0 Q (F0 m 23 ls []) := by
    intro  H locs ls h hP hD hS hl
    refine lv_iconst (v := 0) hx hb dX10_isFilled_23 (by decide) ?_
    obtain ⟨hz, h⟩ := h
    exact hret (0 : Int32)  H locs ls _ hP hD hS hz h dX10_isFilled_24
  refine lv_iload_n hx hb dX10_isFilled_0 rfl (lv_at hl 1 rfl) ?_
  refine mc_iS ⟨hx, hb, hml, hown, hts⟩ hK hE hA hP hD hS (c_X10_isKeep l G Y tF H.size x1 h) (va_cwS 1 hts gX10_isFilled_X10_isKeep rfl rfl rfl (by decide +kernel) ⟨Nat.le_trans (by decide) hRf, Nat.le_trans (by decide) hRl⟩) (fun u => (w_X10_isFilled Y h_t B_t B_t_keeps B_t_keeps_e t_toldCount t_keeps_n)) [] [0, 1, 2, 3, 4, 5] [0, 1, 2, 3, 4, 5] rfl rfl rfl rfl (by decide) (fun _ => rfl) rfl rfl hl.1 rfl (Nat.le_of_ble_eq_true rfl) dX10_isFilled_1 (fun r1 u H locs h hP hD hS => ?_)
  try dsimp only at h
  have hP : va_P G vwCl (w_X10_isFilled Y h_t B_t B_t_keeps B_t_keeps_e t_toldCount t_keeps_n) H := hP
  have hD : va_D A (w_X10_isFilled Y h_t B_t B_t_keeps B_t_keeps_e t_toldCount t_keeps_n) := hD
  obtain ⟨ht, hf⟩ := h
  refine lv_if_eq (tgt := 23) hx hb dX10_isFilled_4 (by decide) (fun c9 => ?_) (fun c9 => ?_)
  · have h := ht c9
    exact J23  H locs ls h hP hD hS (lv_sub hl [] rfl)
  · have h := hf c9
    refine lv_aload_n hx hb dX10_isFilled_7 rfl (lv_at hl 0 rfl) ?_
    refine va_get (D := G) (ci := 9) (v := .ref (B_t 3)) (C := RX10) (T := TX10) (N := 15) hx hb hts inX10 hown hK hP 0 rfl rfl 3 (by decide) hf24 (fun _ h9 => h9) rfl dX10_isFilled_8 ?_
    refine lv_iload_n hx hb dX10_isFilled_11 rfl (lv_at hl 1 rfl) ?_
    obtain ⟨hin, h⟩ := h
    refine va_aldq hx hb hK hP 1 2 rfl rfl hin dX10_isFilled_12 ?_
    obtain ⟨j9, hj9, e9⟩ := vp_in_of hin (by decide)
    have e8 : Int32.toNatClampNeg x1 = j9 := by rw [e9]; exact nI_clamp (by omega)
    simp only [e8]
    have e70 : t_keeps_n (Int32.toNatClampNeg x1) = t_keeps_n j9 := by rw [e8]
    have e60 : ∀ v9, va_up t_keeps_n (Int32.toNatClampNeg x1) v9 = va_up t_keeps_n j9 v9 := by intro v9; rw [e8]
    try simp only [e70, e60] at h
    clear e70 e60
    clear hin e9
    rcases (show j9 = 0 ∨ j9 = 1 ∨ j9 = 2 ∨ j9 = 3 by omega) with rfl | rfl | rfl | rfl
    · clear hj9
      refine W.eq (g2 := F0 m 13 ls [.ref (B_t_keeps 0)]) rfl ?_
      refine va_getN (D := G) (ci := 6) (v := .int (t_keeps_n 0)) (C := RX7) (T := TX7) (N := 2) hx hb hts inX7 hown hK hP 2 rfl rfl 1 (by decide) (hE.nest args 0 _ rfl) (fun _ h9 => h9) rfl dX10_isFilled_13 ?_
      obtain ⟨ht, hf⟩ := h
      refine lv_if_le (tgt := 23) hx hb dX10_isFilled_16 (by decide) (fun c9 => ?_) (fun c9 => ?_)
      · have h := ht c9
        exact J23  H locs ls h hP hD hS (lv_sub hl [] rfl)
      · have h := hf c9
        refine lv_iconst (v := 1) hx hb dX10_isFilled_19 (by decide) ?_
        refine lv_goto (tgt := 24) hx hb dX10_isFilled_20 (by decide) ?_
        obtain ⟨hz, h⟩ := h
        exact hret (1 : Int32)  H locs ls _ hP hD hS hz h dX10_isFilled_24
    · clear hj9
      refine W.eq (g2 := F0 m 13 ls [.ref (B_t_keeps 1)]) rfl ?_
      refine va_getN (D := G) (ci := 6) (v := .int (t_keeps_n 1)) (C := RX7) (T := TX7) (N := 2) hx hb hts inX7 hown hK hP 3 rfl rfl 1 (by decide) (hE.nest args 0 _ rfl) (fun _ h9 => h9) rfl dX10_isFilled_13 ?_
      obtain ⟨ht, hf⟩ := h
      refine lv_if_le (tgt := 23) hx hb dX10_isFilled_16 (by decide) (fun c9 => ?_) (fun c9 => ?_)
      · have h := ht c9
        exact J23  H locs ls h hP hD hS (lv_sub hl [] rfl)
      · have h := hf c9
        refine lv_iconst (v := 1) hx hb dX10_isFilled_19 (by decide) ?_
        refine lv_goto (tgt := 24) hx hb dX10_isFilled_20 (by decide) ?_
        obtain ⟨hz, h⟩ := h
        exact hret (1 : Int32)  H locs ls _ hP hD hS hz h dX10_isFilled_24
    · clear hj9
      refine W.eq (g2 := F0 m 13 ls [.ref (B_t_keeps 2)]) rfl ?_
      refine va_getN (D := G) (ci := 6) (v := .int (t_keeps_n 2)) (C := RX7) (T := TX7) (N := 2) hx hb hts inX7 hown hK hP 4 rfl rfl 1 (by decide) (hE.nest args 0 _ rfl) (fun _ h9 => h9) rfl dX10_isFilled_13 ?_
      obtain ⟨ht, hf⟩ := h
      refine lv_if_le (tgt := 23) hx hb dX10_isFilled_16 (by decide) (fun c9 => ?_) (fun c9 => ?_)
      · have h := ht c9
        exact J23  H locs ls h hP hD hS (lv_sub hl [] rfl)
      · have h := hf c9
        refine lv_iconst (v := 1) hx hb dX10_isFilled_19 (by decide) ?_
        refine lv_goto (tgt := 24) hx hb dX10_isFilled_20 (by decide) ?_
        obtain ⟨hz, h⟩ := h
        exact hret (1 : Int32)  H locs ls _ hP hD hS hz h dX10_isFilled_24
    · clear hj9
      refine W.eq (g2 := F0 m 13 ls [.ref (B_t_keeps 3)]) rfl ?_
      refine va_getN (D := G) (ci := 6) (v := .int (t_keeps_n 3)) (C := RX7) (T := TX7) (N := 2) hx hb hts inX7 hown hK hP 5 rfl rfl 1 (by decide) (hE.nest args 0 _ rfl) (fun _ h9 => h9) rfl dX10_isFilled_13 ?_
      obtain ⟨ht, hf⟩ := h
      refine lv_if_le (tgt := 23) hx hb dX10_isFilled_16 (by decide) (fun c9 => ?_) (fun c9 => ?_)
      · have h := ht c9
        exact J23  H locs ls h hP hD hS (lv_sub hl [] rfl)
      · have h := hf c9
        refine lv_iconst (v := 1) hx hb dX10_isFilled_19 (by decide) ?_
        refine lv_goto (tgt := 24) hx hb dX10_isFilled_20 (by decide) ?_
        obtain ⟨hz, h⟩ := h
        exact hret (1 : Int32)  H locs ls _ hP hD hS hz h dX10_isFilled_24

set_option maxHeartbeats 4000000 in
set_option maxRecDepth 100000 in
theorem c_X10_isFilled (l : Launch) (G : va_G) (Y : Nat → ClassId) (tF sz : Nat) (h_t : Nat) (B_t : Nat → Nat) (B_t_keeps : Nat → Nat) (B_t_keeps_e : Nat → Nat → Nat) (t_toldCount : Int32) (t_keeps_n : Nat → Int32) (x1 : Int32) {K : Int32 → Prop} (h : pX10_isFilled t_keeps_n x1 K) : Met l yX10_isFilled wsX10_isFilled ({ frames := 1, cells := 0, slots := 0, locals := 20 }) (PcM G Y tF sz (w_X10_isFilled Y h_t B_t B_t_keeps B_t_keeps_e t_toldCount t_keeps_n) [.ref h_t, .int x1]) (va_Qi (fun (r : Int32) (u : Unit) => K r ) (fun u t => BM G Y (va_A (w_X10_isFilled Y h_t B_t B_t_keeps B_t_keeps_e t_toldCount t_keeps_n) sz) (w_X10_isFilled Y h_t B_t B_t_keeps B_t_keeps_e t_toldCount t_keeps_n) t) (va_A (w_X10_isFilled Y h_t B_t B_t_keeps B_t_keeps_e t_toldCount t_keeps_n) sz)) 0 0 (va_A (w_X10_isFilled Y h_t B_t B_t_keeps B_t_keeps_e t_toldCount t_keeps_n) sz) := by
  refine Met.ofW (cc := cX10_isFilled) (maxL := 2) (ret := (some .boolean)) (by decide +kernel) rfl ?_
  intro p e s m args below meth c s₁ B hml hv
  obtain ⟨rfl, hsz, hP, hK, hD0, hE⟩ := hv
  have hts := atoms_spec (ws := wsX10_isFilled) B.pre
  have hown : s.vm.findClass RX10 = some m.cls := findClass_of_methodNamed B.named
  have hlocks := B.notSynchronized
  subst hsz
  have hD := hD0.self (sz := s.heap.size)
  exact wk_X10_isFilled h_t B_t B_t_keeps B_t_keeps_e t_toldCount t_keeps_n x1 B.exec B.bytes hml hown hts hK hE (fun q h => Or.inr h) (Nat.le_refl _) (Nat.le_refl _) (fun r  H locs ls pc hP hD hS hz hk hd => W.zret (v := r) B.exec B.bytes B.returns hz.n (fun t ht hW => ⟨⟨r, (), rfl, hk, by rw [ht]; exact hP, va_K.moved hW.alike hK, hD⟩, hS.F ht⟩) hS.2.2 hd) hP hD h

abbrev w_X10_fetch (Y : Nat → ClassId) (h_t : Nat) (B_t : Nat → Nat) (B_t_current : Nat → Nat) (B_t_draft : Nat → Nat) (B_t_keeps : Nat → Nat) (B_t_keeps_e : Nat → Nat → Nat) (B_t_twisting : Nat → Nat) (t_toldCount : Int32) (t_current_n : Int32) (t_current_cells : Nat → Int32) (t_draft_n : Int32) (t_draft_cells : Nat → Int32) (t_keeps_n : Nat → Int32) (t_keeps_cells : Nat → Nat → Int32) (t_twisting_modulus : Int32) (t_twisting_values : Nat → Int32) : va_W := [(h_t, .inr (9, [.ref (B_t 0), .ref (B_t 1), .ref (B_t 2), .ref (B_t 3), .ref (B_t 4), .ref (B_t 5), .ref (B_t 6), .ref (B_t 7), .ref (B_t 8), .ref (B_t 9), .ref (B_t 10), .ref (B_t 11), .ref (B_t 12), .ref (B_t 13), .int t_toldCount])), ((B_t 0), .inr (6, [.ref (B_t_current 0), .int t_current_n])), ((B_t_current 0), .inl (Y 0, 64, .inl t_current_cells)), ((B_t 1), .inr (6, [.ref (B_t_draft 0), .int t_draft_n])), ((B_t_draft 0), .inl (Y 0, 64, .inl t_draft_cells)), ((B_t 3), .inl (Y 2, 4, .inr (.inr (.inr (.inr (fun i => if i < 4 then some (B_t_keeps i) else none)))))), ((B_t_keeps 0), .inr (6, [.ref ((B_t_keeps_e 0) 0), .int (t_keeps_n 0)])), (((B_t_keeps_e 0) 0), .inl (Y 0, 64, .inl (t_keeps_cells 0))), ((B_t_keeps 1), .inr (6, [.ref ((B_t_keeps_e 1) 0), .int (t_keeps_n 1)])), (((B_t_keeps_e 1) 0), .inl (Y 0, 64, .inl (t_keeps_cells 1))), ((B_t_keeps 2), .inr (6, [.ref ((B_t_keeps_e 2) 0), .int (t_keeps_n 2)])), (((B_t_keeps_e 2) 0), .inl (Y 0, 64, .inl (t_keeps_cells 2))), ((B_t_keeps 3), .inr (6, [.ref ((B_t_keeps_e 3) 0), .int (t_keeps_n 3)])), (((B_t_keeps_e 3) 0), .inl (Y 0, 64, .inl (t_keeps_cells 3))), ((B_t 4), .inr (8, [.ref (B_t_twisting 0), .int t_twisting_modulus])), ((B_t_twisting 0), .inl (Y 0, 64, .inl t_twisting_values))]

set_option maxHeartbeats 4000000 in
set_option maxRecDepth 100000 in
theorem wk_X10_fetch {p : Program} {l : Launch} {e : Env} {R : Room} {s : State} {m : MethodId} {args : Array Value} {below : List Frame} {meth : Method} {c : Code} {Q : State → Prop} {G : va_G} {Y : Nat → ClassId} {tF : Nat} {A : Nat → Prop} (h_t : Nat) (B_t : Nat → Nat) (B_t_current : Nat → Nat) (B_t_draft : Nat → Nat) (B_t_keeps : Nat → Nat) (B_t_keeps_e : Nat → Nat → Nat) (B_t_twisting : Nat → Nat) (t_toldCount : Int32) (t_current_n : Int32) (t_current_cells : Nat → Int32) (t_draft_n : Int32) (t_draft_cells : Nat → Int32) (t_keeps_n : Nat → Int32) (t_keeps_cells : Nat → Nat → Int32) (t_twisting_modulus : Int32) (t_twisting_values : Nat → Int32) (x1 : Int32) {K : Int32 → Int32 → (Nat → Int32) → Int32 → (Nat → Int32) → (Nat → Int32) → Prop} (hx : p.tables.exec = Jvm.exec) (hb : c.code = cX10_fetch) (hml : c.maxLocals = 2) (hown : s.vm.findClass RX10 = some m.cls) (hts : ∀ w ∈ wsX10_fetch, w.before args s = true) (hK : va_K G vwCl (tyL Y) s) (hE : Ev A tF s) (hA : ∀ q, s.heap.size ≤ q → A q) (hRf : 3 ≤ R.frames) (hRl : 105 ≤ R.locals) (hret : ∀ (r : Int32) (t_current_n : Int32) (t_current_cells : Nat → Int32) (t_draft_n : Int32) (t_draft_cells : Nat → Int32) (t_twisting_values : Nat → Int32) (H : Heap) (locs : List Loc) (ls : Array Slot) (pc : Nat), va_P G vwCl (w_X10_fetch Y h_t B_t B_t_current B_t_draft B_t_keeps B_t_keeps_e B_t_twisting t_toldCount t_current_n t_current_cells t_draft_n t_draft_cells t_keeps_n t_keeps_cells t_twisting_modulus t_twisting_values) H → va_D A (w_X10_fetch Y h_t B_t B_t_current B_t_draft B_t_keeps B_t_keeps_e B_t_twisting t_toldCount t_current_n t_current_cells t_draft_n t_draft_cells t_keeps_n t_keeps_cells t_twisting_modulus t_twisting_values) → va_S A s.heap H locs → K r t_current_n t_current_cells t_draft_n t_draft_cells t_twisting_values → decode cX10_fetch pc = .ok (.ireturn, 1) → W p l e R s m args below meth c H locs 0 0 Q (F0 m pc ls [.int r])) (hP : va_P G vwCl (w_X10_fetch Y h_t B_t B_t_current B_t_draft B_t_keeps B_t_keeps_e B_t_twisting t_toldCount t_current_n t_current_cells t_draft_n t_draft_cells t_keeps_n t_keeps_cells t_twisting_modulus t_twisting_values) s.heap) (hD : va_D A (w_X10_fetch Y h_t B_t B_t_current B_t_draft B_t_keeps B_t_keeps_e B_t_twisting t_toldCount t_current_n t_current_cells t_draft_n t_draft_cells t_keeps_n t_keeps_cells t_twisting_modulus t_twisting_values)) (h : pX10_fetch t_current_n t_current_cells t_draft_n t_draft_cells t_keeps_n t_keeps_cells t_twisting_values x1 K) : W p l e R s m args below meth c s.heap [] 0 0 Q (entryFrame m ([.ref h_t, .int x1] : List Value).toArray 2) := by
  have inX10 : ∀ w ∈ u_ws RX10 TX10 15, w ∈ wsX10_fetch := by decide +kernel
  have hf18 := hts (.fieldLink RX10 18 "RackBench" "draft" "LRackBench$Table;") (by decide +kernel)
  have hf24 := hts (.fieldLink RX10 24 "RackBench" "keeps" "[LRackBench$Table;") (by decide +kernel)
  have hl := lv_entry ([.ref h_t, .int x1]) (n := 2) (Nat.le_of_ble_eq_true rfl)
  rw [lg_entry_eq]
  generalize (lg_sl ([.ref h_t, .int x1]) ++ List.replicate (2 - (lg_sl ([.ref h_t, .int x1])).length) Slot.unset).toArray = ls at hl ⊢
  have hl : lv_has ls 2 [(0, .ref h_t), (1, .int x1)] := hl
  generalize hH0 : s.heap = H at hP ⊢
  have hS : va_S A s.heap H [] := by rw [← hH0]; exact va_S.rf
  clear hH0
  generalize ([] : List Loc) = locs at hS ⊢
  refine lv_aload_n hx hb dX10_fetch_0 rfl (lv_at hl 0 rfl) ?_
  refine lv_iload_n hx hb dX10_fetch_1 rfl (lv_at hl 1 rfl) ?_
  refine mc_iV ⟨hx, hb, hml, hown, hts⟩ hK hE hA hP hD hS (c_X10_isFilled l G Y tF H.size h_t B_t B_t_keeps B_t_keeps_e t_toldCount t_keeps_n x1 h) (cwV 1 hts gX10_fetch_X10_isFilled rfl rfl rfl (by decide +kernel) ⟨Nat.le_trans (by decide) hRf, Nat.le_trans (by decide) hRl⟩) (fun u => (w_X10_fetch Y h_t B_t B_t_current B_t_draft B_t_keeps B_t_keeps_e B_t_twisting t_toldCount t_current_n t_current_cells t_draft_n t_draft_cells t_keeps_n t_keeps_cells t_twisting_modulus t_twisting_values)) [0, 5, 6, 8, 10, 12] [1, 2, 3, 4, 7, 9, 11, 13, 14, 15] [10, 0, 1, 2, 3, 11, 12, 4, 13, 5, 14, 6, 15, 7, 8, 9] rfl rfl rfl rfl (by decide) (fun _ => rfl) rfl 0 9 rfl rfl rfl rfl hl.1 rfl (Nat.le_of_ble_eq_true rfl) dX10_fetch_2 (fun r2 u H locs h hP hD hS => ?_)
  try dsimp only at h
  have hP : va_P G vwCl (w_X10_fetch Y h_t B_t B_t_current B_t_draft B_t_keeps B_t_keeps_e B_t_twisting t_toldCount t_current_n t_current_cells t_draft_n t_draft_cells t_keeps_n t_keeps_cells t_twisting_modulus t_twisting_values) H := hP
  have hD : va_D A (w_X10_fetch Y h_t B_t B_t_current B_t_draft B_t_keeps B_t_keeps_e B_t_twisting t_toldCount t_current_n t_current_cells t_draft_n t_draft_cells t_keeps_n t_keeps_cells t_twisting_modulus t_twisting_values) := hD
  obtain ⟨ht, hf⟩ := h
  refine lv_if_ne (tgt := 10) hx hb dX10_fetch_5 (by decide) (fun c9 => ?_) (fun c9 => ?_)
  · have h := ht c9
    refine lv_aload_n hx hb dX10_fetch_10 rfl (lv_at hl 0 rfl) ?_
    refine va_get (D := G) (ci := 9) (v := .ref (B_t 1)) (C := RX10) (T := TX10) (N := 15) hx hb hts inX10 hown hK hP 0 rfl rfl 1 (by decide) hf18 (fun _ h9 => h9) rfl dX10_fetch_11 ?_
    refine lv_aload_n hx hb dX10_fetch_14 rfl (lv_at hl 0 rfl) ?_
    refine va_get (D := G) (ci := 9) (v := .ref (B_t 3)) (C := RX10) (T := TX10) (N := 15) hx hb hts inX10 hown hK hP 0 rfl rfl 3 (by decide) hf24 (fun _ h9 => h9) rfl dX10_fetch_15 ?_
    refine lv_iload_n hx hb dX10_fetch_18 rfl (lv_at hl 1 rfl) ?_
    obtain ⟨hin, h⟩ := h
    refine va_aldq hx hb hK hP 5 2 rfl rfl hin dX10_fetch_19 ?_
    obtain ⟨j9, hj9, e9⟩ := vp_in_of hin (by decide)
    have e8 : Int32.toNatClampNeg x1 = j9 := by rw [e9]; exact nI_clamp (by omega)
    simp only [e8]
    have e70 : t_keeps_n (Int32.toNatClampNeg x1) = t_keeps_n j9 := by rw [e8]
    have e60 : ∀ v9, va_up t_keeps_n (Int32.toNatClampNeg x1) v9 = va_up t_keeps_n j9 v9 := by intro v9; rw [e8]
    have e71 : t_keeps_cells (Int32.toNatClampNeg x1) = t_keeps_cells j9 := by rw [e8]
    have e61 : ∀ v9, va_up t_keeps_cells (Int32.toNatClampNeg x1) v9 = va_up t_keeps_cells j9 v9 := by intro v9; rw [e8]
    try simp only [e70, e71, e60, e61] at h
    clear e70 e60 e71 e61
    clear hin e9
    rcases (show j9 = 0 ∨ j9 = 1 ∨ j9 = 2 ∨ j9 = 3 by omega) with rfl | rfl | rfl | rfl
    · clear hj9
      refine W.eq (g2 := F0 m 20 ls [.ref (B_t_keeps 0), .ref (B_t 1)]) rfl ?_
      refine mc_vV ⟨hx, hb, hml, hown, hts⟩ hK hE hA hP hD hS (c_X7_copy l G Y tF H.size (B_t 1) (B_t_keeps 0) B_t_draft (B_t_keeps_e 0) t_draft_n t_draft_cells (t_keeps_n 0) (t_keeps_cells 0) h) (cwV 1 hts gX10_fetch_X7_copy rfl rfl rfl (by decide +kernel) ⟨Nat.le_trans (by decide) hRf, Nat.le_trans (by decide) hRl⟩) (fun u => (w_X10_fetch Y h_t B_t B_t_current B_t_draft B_t_keeps B_t_keeps_e B_t_twisting t_toldCount t_current_n t_current_cells u.1 u.2 t_keeps_n t_keeps_cells t_twisting_modulus t_twisting_values)) [3, 4, 6, 7] [0, 1, 2, 5, 8, 9, 10, 11, 12, 13, 14, 15] [0, 1, 2, 12, 13, 3, 14, 15, 4, 5, 6, 7, 8, 9, 10, 11] rfl rfl rfl rfl (by decide) (fun _ => rfl) rfl 3 6 rfl rfl rfl rfl hl.1 rfl (Nat.le_of_ble_eq_true rfl) dX10_fetch_20 (fun u H locs h hP hD hS => ?_)
      obtain ⟨t_draft_n_20, t_draft_cells_20⟩ := u
      try dsimp only at h
      have hP : va_P G vwCl (w_X10_fetch Y h_t B_t B_t_current B_t_draft B_t_keeps B_t_keeps_e B_t_twisting t_toldCount t_current_n t_current_cells t_draft_n_20 t_draft_cells_20 t_keeps_n t_keeps_cells t_twisting_modulus t_twisting_values) H := hP
      have hD : va_D A (w_X10_fetch Y h_t B_t B_t_current B_t_draft B_t_keeps B_t_keeps_e B_t_twisting t_toldCount t_current_n t_current_cells t_draft_n_20 t_draft_cells_20 t_keeps_n t_keeps_cells t_twisting_modulus t_twisting_values) := hD
      refine lv_aload_n hx hb dX10_fetch_23 rfl (lv_at hl 0 rfl) ?_
      refine mc_iV ⟨hx, hb, hml, hown, hts⟩ hK hE hA hP hD hS (c_X10_adoptDraft l G Y tF H.size h_t B_t B_t_current B_t_draft B_t_twisting t_toldCount t_current_n t_current_cells t_draft_n_20 t_draft_cells_20 t_twisting_modulus t_twisting_values h) (cwV 0 hts gX10_fetch_X10_adoptDraft rfl rfl rfl (by decide +kernel) ⟨Nat.le_trans (by decide) hRf, Nat.le_trans (by decide) hRl⟩) (fun u => (w_X10_fetch Y h_t B_t B_t_current B_t_draft B_t_keeps B_t_keeps_e B_t_twisting t_toldCount u.1 u.2.1 t_draft_n_20 t_draft_cells_20 t_keeps_n t_keeps_cells t_twisting_modulus u.2.2)) [0, 1, 2, 3, 4, 14, 15] [5, 6, 7, 8, 9, 10, 11, 12, 13] [9, 10, 11, 12, 13, 0, 1, 2, 3, 4, 5, 6, 7, 8, 14, 15] rfl rfl rfl rfl (by decide) (fun _ => rfl) rfl 0 9 rfl rfl rfl rfl hl.1 rfl (Nat.le_of_ble_eq_true rfl) dX10_fetch_24 (fun r24 u H locs h hP hD hS => ?_)
      obtain ⟨t_current_n_24, t_current_cells_24, t_twisting_values_24⟩ := u
      try dsimp only at h
      have hP : va_P G vwCl (w_X10_fetch Y h_t B_t B_t_current B_t_draft B_t_keeps B_t_keeps_e B_t_twisting t_toldCount t_current_n_24 t_current_cells_24 t_draft_n_20 t_draft_cells_20 t_keeps_n t_keeps_cells t_twisting_modulus t_twisting_values_24) H := hP
      have hD : va_D A (w_X10_fetch Y h_t B_t B_t_current B_t_draft B_t_keeps B_t_keeps_e B_t_twisting t_toldCount t_current_n_24 t_current_cells_24 t_draft_n_20 t_draft_cells_20 t_keeps_n t_keeps_cells t_twisting_modulus t_twisting_values_24) := hD
      exact hret r24 t_current_n_24 t_current_cells_24 t_draft_n_20 t_draft_cells_20 t_twisting_values_24 H locs ls _ hP hD hS h dX10_fetch_27
    · clear hj9
      refine W.eq (g2 := F0 m 20 ls [.ref (B_t_keeps 1), .ref (B_t 1)]) rfl ?_
      refine mc_vV ⟨hx, hb, hml, hown, hts⟩ hK hE hA hP hD hS (c_X7_copy l G Y tF H.size (B_t 1) (B_t_keeps 1) B_t_draft (B_t_keeps_e 1) t_draft_n t_draft_cells (t_keeps_n 1) (t_keeps_cells 1) h) (cwV 1 hts gX10_fetch_X7_copy rfl rfl rfl (by decide +kernel) ⟨Nat.le_trans (by decide) hRf, Nat.le_trans (by decide) hRl⟩) (fun u => (w_X10_fetch Y h_t B_t B_t_current B_t_draft B_t_keeps B_t_keeps_e B_t_twisting t_toldCount t_current_n t_current_cells u.1 u.2 t_keeps_n t_keeps_cells t_twisting_modulus t_twisting_values)) [3, 4, 8, 9] [0, 1, 2, 5, 6, 7, 10, 11, 12, 13, 14, 15] [0, 1, 2, 12, 13, 3, 4, 5, 14, 15, 6, 7, 8, 9, 10, 11] rfl rfl rfl rfl (by decide) (fun _ => rfl) rfl 3 6 rfl rfl rfl rfl hl.1 rfl (Nat.le_of_ble_eq_true rfl) dX10_fetch_20 (fun u H locs h hP hD hS => ?_)
      obtain ⟨t_draft_n_20, t_draft_cells_20⟩ := u
      try dsimp only at h
      have hP : va_P G vwCl (w_X10_fetch Y h_t B_t B_t_current B_t_draft B_t_keeps B_t_keeps_e B_t_twisting t_toldCount t_current_n t_current_cells t_draft_n_20 t_draft_cells_20 t_keeps_n t_keeps_cells t_twisting_modulus t_twisting_values) H := hP
      have hD : va_D A (w_X10_fetch Y h_t B_t B_t_current B_t_draft B_t_keeps B_t_keeps_e B_t_twisting t_toldCount t_current_n t_current_cells t_draft_n_20 t_draft_cells_20 t_keeps_n t_keeps_cells t_twisting_modulus t_twisting_values) := hD
      refine lv_aload_n hx hb dX10_fetch_23 rfl (lv_at hl 0 rfl) ?_
      refine mc_iV ⟨hx, hb, hml, hown, hts⟩ hK hE hA hP hD hS (c_X10_adoptDraft l G Y tF H.size h_t B_t B_t_current B_t_draft B_t_twisting t_toldCount t_current_n t_current_cells t_draft_n_20 t_draft_cells_20 t_twisting_modulus t_twisting_values h) (cwV 0 hts gX10_fetch_X10_adoptDraft rfl rfl rfl (by decide +kernel) ⟨Nat.le_trans (by decide) hRf, Nat.le_trans (by decide) hRl⟩) (fun u => (w_X10_fetch Y h_t B_t B_t_current B_t_draft B_t_keeps B_t_keeps_e B_t_twisting t_toldCount u.1 u.2.1 t_draft_n_20 t_draft_cells_20 t_keeps_n t_keeps_cells t_twisting_modulus u.2.2)) [0, 1, 2, 3, 4, 14, 15] [5, 6, 7, 8, 9, 10, 11, 12, 13] [9, 10, 11, 12, 13, 0, 1, 2, 3, 4, 5, 6, 7, 8, 14, 15] rfl rfl rfl rfl (by decide) (fun _ => rfl) rfl 0 9 rfl rfl rfl rfl hl.1 rfl (Nat.le_of_ble_eq_true rfl) dX10_fetch_24 (fun r24 u H locs h hP hD hS => ?_)
      obtain ⟨t_current_n_24, t_current_cells_24, t_twisting_values_24⟩ := u
      try dsimp only at h
      have hP : va_P G vwCl (w_X10_fetch Y h_t B_t B_t_current B_t_draft B_t_keeps B_t_keeps_e B_t_twisting t_toldCount t_current_n_24 t_current_cells_24 t_draft_n_20 t_draft_cells_20 t_keeps_n t_keeps_cells t_twisting_modulus t_twisting_values_24) H := hP
      have hD : va_D A (w_X10_fetch Y h_t B_t B_t_current B_t_draft B_t_keeps B_t_keeps_e B_t_twisting t_toldCount t_current_n_24 t_current_cells_24 t_draft_n_20 t_draft_cells_20 t_keeps_n t_keeps_cells t_twisting_modulus t_twisting_values_24) := hD
      exact hret r24 t_current_n_24 t_current_cells_24 t_draft_n_20 t_draft_cells_20 t_twisting_values_24 H locs ls _ hP hD hS h dX10_fetch_27
    · clear hj9
      refine W.eq (g2 := F0 m 20 ls [.ref (B_t_keeps 2), .ref (B_t 1)]) rfl ?_
      refine mc_vV ⟨hx, hb, hml, hown, hts⟩ hK hE hA hP hD hS (c_X7_copy l G Y tF H.size (B_t 1) (B_t_keeps 2) B_t_draft (B_t_keeps_e 2) t_draft_n t_draft_cells (t_keeps_n 2) (t_keeps_cells 2) h) (cwV 1 hts gX10_fetch_X7_copy rfl rfl rfl (by decide +kernel) ⟨Nat.le_trans (by decide) hRf, Nat.le_trans (by decide) hRl⟩) (fun u => (w_X10_fetch Y h_t B_t B_t_current B_t_draft B_t_keeps B_t_keeps_e B_t_twisting t_toldCount t_current_n t_current_cells u.1 u.2 t_keeps_n t_keeps_cells t_twisting_modulus t_twisting_values)) [3, 4, 10, 11] [0, 1, 2, 5, 6, 7, 8, 9, 12, 13, 14, 15] [0, 1, 2, 12, 13, 3, 4, 5, 6, 7, 14, 15, 8, 9, 10, 11] rfl rfl rfl rfl (by decide) (fun _ => rfl) rfl 3 6 rfl rfl rfl rfl hl.1 rfl (Nat.le_of_ble_eq_true rfl) dX10_fetch_20 (fun u H locs h hP hD hS => ?_)
      obtain ⟨t_draft_n_20, t_draft_cells_20⟩ := u
      try dsimp only at h
      have hP : va_P G vwCl (w_X10_fetch Y h_t B_t B_t_current B_t_draft B_t_keeps B_t_keeps_e B_t_twisting t_toldCount t_current_n t_current_cells t_draft_n_20 t_draft_cells_20 t_keeps_n t_keeps_cells t_twisting_modulus t_twisting_values) H := hP
      have hD : va_D A (w_X10_fetch Y h_t B_t B_t_current B_t_draft B_t_keeps B_t_keeps_e B_t_twisting t_toldCount t_current_n t_current_cells t_draft_n_20 t_draft_cells_20 t_keeps_n t_keeps_cells t_twisting_modulus t_twisting_values) := hD
      refine lv_aload_n hx hb dX10_fetch_23 rfl (lv_at hl 0 rfl) ?_
      refine mc_iV ⟨hx, hb, hml, hown, hts⟩ hK hE hA hP hD hS (c_X10_adoptDraft l G Y tF H.size h_t B_t B_t_current B_t_draft B_t_twisting t_toldCount t_current_n t_current_cells t_draft_n_20 t_draft_cells_20 t_twisting_modulus t_twisting_values h) (cwV 0 hts gX10_fetch_X10_adoptDraft rfl rfl rfl (by decide +kernel) ⟨Nat.le_trans (by decide) hRf, Nat.le_trans (by decide) hRl⟩) (fun u => (w_X10_fetch Y h_t B_t B_t_current B_t_draft B_t_keeps B_t_keeps_e B_t_twisting t_toldCount u.1 u.2.1 t_draft_n_20 t_draft_cells_20 t_keeps_n t_keeps_cells t_twisting_modulus u.2.2)) [0, 1, 2, 3, 4, 14, 15] [5, 6, 7, 8, 9, 10, 11, 12, 13] [9, 10, 11, 12, 13, 0, 1, 2, 3, 4, 5, 6, 7, 8, 14, 15] rfl rfl rfl rfl (by decide) (fun _ => rfl) rfl 0 9 rfl rfl rfl rfl hl.1 rfl (Nat.le_of_ble_eq_true rfl) dX10_fetch_24 (fun r24 u H locs h hP hD hS => ?_)
      obtain ⟨t_current_n_24, t_current_cells_24, t_twisting_values_24⟩ := u
      try dsimp only at h
      have hP : va_P G vwCl (w_X10_fetch Y h_t B_t B_t_current B_t_draft B_t_keeps B_t_keeps_e B_t_twisting t_toldCount t_current_n_24 t_current_cells_24 t_draft_n_20 t_draft_cells_20 t_keeps_n t_keeps_cells t_twisting_modulus t_twisting_values_24) H := hP
      have hD : va_D A (w_X10_fetch Y h_t B_t B_t_current B_t_draft B_t_keeps B_t_keeps_e B_t_twisting t_toldCount t_current_n_24 t_current_cells_24 t_draft_n_20 t_draft_cells_20 t_keeps_n t_keeps_cells t_twisting_modulus t_twisting_values_24) := hD
      exact hret r24 t_current_n_24 t_current_cells_24 t_draft_n_20 t_draft_cells_20 t_twisting_values_24 H locs ls _ hP hD hS h dX10_fetch_27
    · clear hj9
      refine W.eq (g2 := F0 m 20 ls [.ref (B_t_keeps 3), .ref (B_t 1)]) rfl ?_
      refine mc_vV ⟨hx, hb, hml, hown, hts⟩ hK hE hA hP hD hS (c_X7_copy l G Y tF H.size (B_t 1) (B_t_keeps 3) B_t_draft (B_t_keeps_e 3) t_draft_n t_draft_cells (t_keeps_n 3) (t_keeps_cells 3) h) (cwV 1 hts gX10_fetch_X7_copy rfl rfl rfl (by decide +kernel) ⟨Nat.le_trans (by decide) hRf, Nat.le_trans (by decide) hRl⟩) (fun u => (w_X10_fetch Y h_t B_t B_t_current B_t_draft B_t_keeps B_t_keeps_e B_t_twisting t_toldCount t_current_n t_current_cells u.1 u.2 t_keeps_n t_keeps_cells t_twisting_modulus t_twisting_values)) [3, 4, 12, 13] [0, 1, 2, 5, 6, 7, 8, 9, 10, 11, 14, 15] [0, 1, 2, 12, 13, 3, 4, 5, 6, 7, 8, 9, 14, 15, 10, 11] rfl rfl rfl rfl (by decide) (fun _ => rfl) rfl 3 6 rfl rfl rfl rfl hl.1 rfl (Nat.le_of_ble_eq_true rfl) dX10_fetch_20 (fun u H locs h hP hD hS => ?_)
      obtain ⟨t_draft_n_20, t_draft_cells_20⟩ := u
      try dsimp only at h
      have hP : va_P G vwCl (w_X10_fetch Y h_t B_t B_t_current B_t_draft B_t_keeps B_t_keeps_e B_t_twisting t_toldCount t_current_n t_current_cells t_draft_n_20 t_draft_cells_20 t_keeps_n t_keeps_cells t_twisting_modulus t_twisting_values) H := hP
      have hD : va_D A (w_X10_fetch Y h_t B_t B_t_current B_t_draft B_t_keeps B_t_keeps_e B_t_twisting t_toldCount t_current_n t_current_cells t_draft_n_20 t_draft_cells_20 t_keeps_n t_keeps_cells t_twisting_modulus t_twisting_values) := hD
      refine lv_aload_n hx hb dX10_fetch_23 rfl (lv_at hl 0 rfl) ?_
      refine mc_iV ⟨hx, hb, hml, hown, hts⟩ hK hE hA hP hD hS (c_X10_adoptDraft l G Y tF H.size h_t B_t B_t_current B_t_draft B_t_twisting t_toldCount t_current_n t_current_cells t_draft_n_20 t_draft_cells_20 t_twisting_modulus t_twisting_values h) (cwV 0 hts gX10_fetch_X10_adoptDraft rfl rfl rfl (by decide +kernel) ⟨Nat.le_trans (by decide) hRf, Nat.le_trans (by decide) hRl⟩) (fun u => (w_X10_fetch Y h_t B_t B_t_current B_t_draft B_t_keeps B_t_keeps_e B_t_twisting t_toldCount u.1 u.2.1 t_draft_n_20 t_draft_cells_20 t_keeps_n t_keeps_cells t_twisting_modulus u.2.2)) [0, 1, 2, 3, 4, 14, 15] [5, 6, 7, 8, 9, 10, 11, 12, 13] [9, 10, 11, 12, 13, 0, 1, 2, 3, 4, 5, 6, 7, 8, 14, 15] rfl rfl rfl rfl (by decide) (fun _ => rfl) rfl 0 9 rfl rfl rfl rfl hl.1 rfl (Nat.le_of_ble_eq_true rfl) dX10_fetch_24 (fun r24 u H locs h hP hD hS => ?_)
      obtain ⟨t_current_n_24, t_current_cells_24, t_twisting_values_24⟩ := u
      try dsimp only at h
      have hP : va_P G vwCl (w_X10_fetch Y h_t B_t B_t_current B_t_draft B_t_keeps B_t_keeps_e B_t_twisting t_toldCount t_current_n_24 t_current_cells_24 t_draft_n_20 t_draft_cells_20 t_keeps_n t_keeps_cells t_twisting_modulus t_twisting_values_24) H := hP
      have hD : va_D A (w_X10_fetch Y h_t B_t B_t_current B_t_draft B_t_keeps B_t_keeps_e B_t_twisting t_toldCount t_current_n_24 t_current_cells_24 t_draft_n_20 t_draft_cells_20 t_keeps_n t_keeps_cells t_twisting_modulus t_twisting_values_24) := hD
      exact hret r24 t_current_n_24 t_current_cells_24 t_draft_n_20 t_draft_cells_20 t_twisting_values_24 H locs ls _ hP hD hS h dX10_fetch_27
  · have h := hf c9
    refine lv_iconst (v := -1) hx hb dX10_fetch_8 (by decide) ?_
    exact hret (-1 : Int32) t_current_n t_current_cells t_draft_n t_draft_cells t_twisting_values H locs ls _ hP hD hS h dX10_fetch_9

set_option maxHeartbeats 4000000 in
set_option maxRecDepth 100000 in
theorem c_X10_fetch (l : Launch) (G : va_G) (Y : Nat → ClassId) (tF sz : Nat) (h_t : Nat) (B_t : Nat → Nat) (B_t_current : Nat → Nat) (B_t_draft : Nat → Nat) (B_t_keeps : Nat → Nat) (B_t_keeps_e : Nat → Nat → Nat) (B_t_twisting : Nat → Nat) (t_toldCount : Int32) (t_current_n : Int32) (t_current_cells : Nat → Int32) (t_draft_n : Int32) (t_draft_cells : Nat → Int32) (t_keeps_n : Nat → Int32) (t_keeps_cells : Nat → Nat → Int32) (t_twisting_modulus : Int32) (t_twisting_values : Nat → Int32) (x1 : Int32) {K : Int32 → Int32 → (Nat → Int32) → Int32 → (Nat → Int32) → (Nat → Int32) → Prop} (h : pX10_fetch t_current_n t_current_cells t_draft_n t_draft_cells t_keeps_n t_keeps_cells t_twisting_values x1 K) : Met l yX10_fetch wsX10_fetch ({ frames := 3, cells := 0, slots := 0, locals := 105 }) (PcM G Y tF sz (w_X10_fetch Y h_t B_t B_t_current B_t_draft B_t_keeps B_t_keeps_e B_t_twisting t_toldCount t_current_n t_current_cells t_draft_n t_draft_cells t_keeps_n t_keeps_cells t_twisting_modulus t_twisting_values) [.ref h_t, .int x1]) (va_Qi (fun (r : Int32) (u : Int32 × (Nat → Int32) × Int32 × (Nat → Int32) × (Nat → Int32)) => K r u.1 u.2.1 u.2.2.1 u.2.2.2.1 u.2.2.2.2) (fun u t => BM G Y (va_A (w_X10_fetch Y h_t B_t B_t_current B_t_draft B_t_keeps B_t_keeps_e B_t_twisting t_toldCount t_current_n t_current_cells t_draft_n t_draft_cells t_keeps_n t_keeps_cells t_twisting_modulus t_twisting_values) sz) (w_X10_fetch Y h_t B_t B_t_current B_t_draft B_t_keeps B_t_keeps_e B_t_twisting t_toldCount u.1 u.2.1 u.2.2.1 u.2.2.2.1 t_keeps_n t_keeps_cells t_twisting_modulus u.2.2.2.2) t) (va_A (w_X10_fetch Y h_t B_t B_t_current B_t_draft B_t_keeps B_t_keeps_e B_t_twisting t_toldCount t_current_n t_current_cells t_draft_n t_draft_cells t_keeps_n t_keeps_cells t_twisting_modulus t_twisting_values) sz)) 0 0 (va_A (w_X10_fetch Y h_t B_t B_t_current B_t_draft B_t_keeps B_t_keeps_e B_t_twisting t_toldCount t_current_n t_current_cells t_draft_n t_draft_cells t_keeps_n t_keeps_cells t_twisting_modulus t_twisting_values) sz) := by
  refine Met.ofW (cc := cX10_fetch) (maxL := 2) (ret := (some .int)) (by decide +kernel) rfl ?_
  intro p e s m args below meth c s₁ B hml hv
  obtain ⟨rfl, hsz, hP, hK, hD0, hE⟩ := hv
  have hts := atoms_spec (ws := wsX10_fetch) B.pre
  have hown : s.vm.findClass RX10 = some m.cls := findClass_of_methodNamed B.named
  have hlocks := B.notSynchronized
  subst hsz
  have hD := hD0.self (sz := s.heap.size)
  exact wk_X10_fetch h_t B_t B_t_current B_t_draft B_t_keeps B_t_keeps_e B_t_twisting t_toldCount t_current_n t_current_cells t_draft_n t_draft_cells t_keeps_n t_keeps_cells t_twisting_modulus t_twisting_values x1 B.exec B.bytes hml hown hts hK hE (fun q h => Or.inr h) (Nat.le_refl _) (Nat.le_refl _) (fun r t_current_n t_current_cells t_draft_n t_draft_cells t_twisting_values H locs ls pc hP hD hS hk hd => W.iret (v := r) B.exec B.bytes B.returns (fun t ht hW => ⟨⟨r, (t_current_n, t_current_cells, t_draft_n, t_draft_cells, t_twisting_values), rfl, hk, by rw [ht]; exact hP, va_K.moved hW.alike hK, hD⟩, hS.F ht⟩) hS.2.2 hd) hP hD h

abbrev w_X10_count (Y : Nat → ClassId) (h_t : Nat) (B_t : Nat → Nat) (B_t_braid : Nat → Nat) (B_t_current : Nat → Nat) (B_t_twisting : Nat → Nat) (t_toldCount : Int32) (t_braid_width : Int32) (t_braid_length : Int32) (t_current_n : Int32) (t_twisting_modulus : Int32) : va_W := [(h_t, .inr (9, [.ref (B_t 0), .ref (B_t 1), .ref (B_t 2), .ref (B_t 3), .ref (B_t 4), .ref (B_t 5), .ref (B_t 6), .ref (B_t 7), .ref (B_t 8), .ref (B_t 9), .ref (B_t 10), .ref (B_t 11), .ref (B_t 12), .ref (B_t 13), .int t_toldCount])), ((B_t 5), .inr (0, [.ref (B_t_braid 0), .ref (B_t_braid 1), .ref (B_t_braid 2), .ref (B_t_braid 3), .int t_braid_width, .int t_braid_length])), ((B_t 0), .inr (6, [.ref (B_t_current 0), .int t_current_n])), ((B_t 4), .inr (8, [.ref (B_t_twisting 0), .int t_twisting_modulus]))]

set_option maxHeartbeats 4000000 in
set_option maxRecDepth 100000 in
theorem wk_X10_count {p : Program} {l : Launch} {e : Env} {R : Room} {s : State} {m : MethodId} {args : Array Value} {below : List Frame} {meth : Method} {c : Code} {Q : State → Prop} {G : va_G} {Y : Nat → ClassId} {tF : Nat} {A : Nat → Prop} (h_t : Nat) (B_t : Nat → Nat) (B_t_braid : Nat → Nat) (B_t_current : Nat → Nat) (B_t_twisting : Nat → Nat) (t_toldCount : Int32) (t_braid_width : Int32) (t_braid_length : Int32) (t_current_n : Int32) (t_twisting_modulus : Int32) (x1 : Int32) {K : Int32 → Prop} (hx : p.tables.exec = Jvm.exec) (hb : c.code = cX10_count) (hml : c.maxLocals = 2) (hown : s.vm.findClass RX10 = some m.cls) (hts : ∀ w ∈ wsX10_count, w.before args s = true) (hK : va_K G vwCl (tyL Y) s) (hE : Ev A tF s) (hA : ∀ q, s.heap.size ≤ q → A q) (hRf : 0 ≤ R.frames) (hRl : 0 ≤ R.locals) (hret : ∀ (r : Int32)  (H : Heap) (locs : List Loc) (ls : Array Slot) (pc : Nat), va_P G vwCl (w_X10_count Y h_t B_t B_t_braid B_t_current B_t_twisting t_toldCount t_braid_width t_braid_length t_current_n t_twisting_modulus) H → va_D A (w_X10_count Y h_t B_t B_t_braid B_t_current B_t_twisting t_toldCount t_braid_width t_braid_length t_current_n t_twisting_modulus) → va_S A s.heap H locs → K r → decode cX10_count pc = .ok (.ireturn, 1) → W p l e R s m args below meth c H locs 0 0 Q (F0 m pc ls [.int r])) (hP : va_P G vwCl (w_X10_count Y h_t B_t B_t_braid B_t_current B_t_twisting t_toldCount t_braid_width t_braid_length t_current_n t_twisting_modulus) s.heap) (hD : va_D A (w_X10_count Y h_t B_t B_t_braid B_t_current B_t_twisting t_toldCount t_braid_width t_braid_length t_current_n t_twisting_modulus)) (h : pX10_count t_toldCount t_braid_width t_braid_length t_current_n t_twisting_modulus x1 K) : W p l e R s m args below meth c s.heap [] 0 0 Q (entryFrame m ([.ref h_t, .int x1] : List Value).toArray 2) := by
  have inX0 : ∀ w ∈ u_ws RX0 TX0 6, w ∈ wsX10_count := by decide +kernel
  have inX10 : ∀ w ∈ u_ws RX10 TX10 15, w ∈ wsX10_count := by decide +kernel
  have inX7 : ∀ w ∈ u_ws RX7 TX7 2, w ∈ wsX10_count := by decide +kernel
  have inX9 : ∀ w ∈ u_ws RX9 TX9 2, w ∈ wsX10_count := by decide +kernel
  have hf14 := hts (.fieldLink RX10 14 "RackBench" "current" "LRackBench$Table;") (by decide +kernel)
  have hf31 := hts (.fieldLink RX10 31 "RackBench" "twisting" "LRackBench$Twist;") (by decide +kernel)
  have hf38 := hts (.fieldLink RX10 38 "RackBench" "braid" "LRackBench$Braid;") (by decide +kernel)
  have hf91 := hts (.fieldLink RX10 91 "RackBench" "toldCount" "I") (by decide +kernel)
  have hl := lv_entry ([.ref h_t, .int x1]) (n := 2) (Nat.le_of_ble_eq_true rfl)
  rw [lg_entry_eq]
  generalize (lg_sl ([.ref h_t, .int x1]) ++ List.replicate (2 - (lg_sl ([.ref h_t, .int x1])).length) Slot.unset).toArray = ls at hl ⊢
  have hl : lv_has ls 2 [(0, .ref h_t), (1, .int x1)] := hl
  generalize hH0 : s.heap = H at hP ⊢
  have hS : va_S A s.heap H [] := by rw [← hH0]; exact va_S.rf
  clear hH0
  generalize ([] : List Loc) = locs at hS ⊢
  refine lv_iload_n hx hb dX10_count_0 rfl (lv_at hl 1 rfl) ?_
  obtain ⟨hs0, hs1, hs2, hs3, hs4, hsd⟩ := h
  by_cases cs0 : x1 = 0
  · have h := hs0 cs0
    refine lv_tableIn (tgt := 36) hx hb dX10_count_1 (by rw [cs0]; decide) (by rw [cs0]; decide) (by rw [cs0]; rfl) (by decide) ?_
    refine lv_aload_n hx hb dX10_count_36 rfl (lv_at hl 0 rfl) ?_
    refine va_get (D := G) (ci := 9) (v := .ref (B_t 0)) (C := RX10) (T := TX10) (N := 15) hx hb hts inX10 hown hK hP 0 rfl rfl 0 (by decide) hf14 (fun _ h9 => h9) rfl dX10_count_37 ?_
    refine va_getN (D := G) (ci := 6) (v := .int t_current_n) (C := RX7) (T := TX7) (N := 2) hx hb hts inX7 hown hK hP 2 rfl rfl 1 (by decide) (hE.nest args 0 _ rfl) (fun _ h9 => h9) rfl dX10_count_40 ?_
    exact hret t_current_n  H locs ls _ hP hD hS h dX10_count_43
  by_cases cs1 : x1 = 1
  · have h := hs1 cs1
    refine lv_tableIn (tgt := 44) hx hb dX10_count_1 (by rw [cs1]; decide) (by rw [cs1]; decide) (by rw [cs1]; rfl) (by decide) ?_
    refine lv_aload_n hx hb dX10_count_44 rfl (lv_at hl 0 rfl) ?_
    refine va_get (D := G) (ci := 9) (v := .ref (B_t 4)) (C := RX10) (T := TX10) (N := 15) hx hb hts inX10 hown hK hP 0 rfl rfl 4 (by decide) hf31 (fun _ h9 => h9) rfl dX10_count_45 ?_
    refine va_getN (D := G) (ci := 8) (v := .int t_twisting_modulus) (C := RX9) (T := TX9) (N := 2) hx hb hts inX9 hown hK hP 3 rfl rfl 1 (by decide) (hE.nest args 1 _ rfl) (fun _ h9 => h9) rfl dX10_count_48 ?_
    exact hret t_twisting_modulus  H locs ls _ hP hD hS h dX10_count_51
  by_cases cs2 : x1 = 2
  · have h := hs2 cs2
    refine lv_tableIn (tgt := 52) hx hb dX10_count_1 (by rw [cs2]; decide) (by rw [cs2]; decide) (by rw [cs2]; rfl) (by decide) ?_
    refine lv_aload_n hx hb dX10_count_52 rfl (lv_at hl 0 rfl) ?_
    refine va_get (D := G) (ci := 9) (v := .ref (B_t 5)) (C := RX10) (T := TX10) (N := 15) hx hb hts inX10 hown hK hP 0 rfl rfl 5 (by decide) hf38 (fun _ h9 => h9) rfl dX10_count_53 ?_
    refine va_getN (D := G) (ci := 0) (v := .int t_braid_width) (C := RX0) (T := TX0) (N := 6) hx hb hts inX0 hown hK hP 1 rfl rfl 4 (by decide) (hE.nest args 2 _ rfl) (fun _ h9 => h9) rfl dX10_count_56 ?_
    exact hret t_braid_width  H locs ls _ hP hD hS h dX10_count_59
  by_cases cs3 : x1 = 3
  · have h := hs3 cs3
    refine lv_tableIn (tgt := 60) hx hb dX10_count_1 (by rw [cs3]; decide) (by rw [cs3]; decide) (by rw [cs3]; rfl) (by decide) ?_
    refine lv_aload_n hx hb dX10_count_60 rfl (lv_at hl 0 rfl) ?_
    refine va_get (D := G) (ci := 9) (v := .ref (B_t 5)) (C := RX10) (T := TX10) (N := 15) hx hb hts inX10 hown hK hP 0 rfl rfl 5 (by decide) hf38 (fun _ h9 => h9) rfl dX10_count_61 ?_
    refine va_getN (D := G) (ci := 0) (v := .int t_braid_length) (C := RX0) (T := TX0) (N := 6) hx hb hts inX0 hown hK hP 1 rfl rfl 5 (by decide) (hE.nest args 3 _ rfl) (fun _ h9 => h9) rfl dX10_count_64 ?_
    exact hret t_braid_length  H locs ls _ hP hD hS h dX10_count_67
  by_cases cs4 : x1 = 4
  · have h := hs4 cs4
    refine lv_tableIn (tgt := 68) hx hb dX10_count_1 (by rw [cs4]; decide) (by rw [cs4]; decide) (by rw [cs4]; rfl) (by decide) ?_
    refine lv_aload_n hx hb dX10_count_68 rfl (lv_at hl 0 rfl) ?_
    refine va_get (D := G) (ci := 9) (v := .int t_toldCount) (C := RX10) (T := TX10) (N := 15) hx hb hts inX10 hown hK hP 0 rfl rfl 14 (by decide) hf91 (fun _ h9 => h9) rfl dX10_count_69 ?_
    exact hret t_toldCount  H locs ls _ hP hD hS h dX10_count_72
  have h := hsd cs0 cs1 cs2 cs3 cs4
  refine lv_tableOut (tgt := 73) hx hb dX10_count_1 (sw_out5 cs0 cs1 cs2 cs3 cs4) (by decide) ?_
  refine lv_iconst (v := -1) hx hb dX10_count_73 (by decide) ?_
  exact hret (-1 : Int32)  H locs ls _ hP hD hS h dX10_count_74

set_option maxHeartbeats 4000000 in
set_option maxRecDepth 100000 in
theorem c_X10_count (l : Launch) (G : va_G) (Y : Nat → ClassId) (tF sz : Nat) (h_t : Nat) (B_t : Nat → Nat) (B_t_braid : Nat → Nat) (B_t_current : Nat → Nat) (B_t_twisting : Nat → Nat) (t_toldCount : Int32) (t_braid_width : Int32) (t_braid_length : Int32) (t_current_n : Int32) (t_twisting_modulus : Int32) (x1 : Int32) {K : Int32 → Prop} (h : pX10_count t_toldCount t_braid_width t_braid_length t_current_n t_twisting_modulus x1 K) : Met l yX10_count wsX10_count ({ frames := 0, cells := 0, slots := 0, locals := 0 }) (PcM G Y tF sz (w_X10_count Y h_t B_t B_t_braid B_t_current B_t_twisting t_toldCount t_braid_width t_braid_length t_current_n t_twisting_modulus) [.ref h_t, .int x1]) (va_Qi (fun (r : Int32) (u : Unit) => K r ) (fun u t => BM G Y (va_A (w_X10_count Y h_t B_t B_t_braid B_t_current B_t_twisting t_toldCount t_braid_width t_braid_length t_current_n t_twisting_modulus) sz) (w_X10_count Y h_t B_t B_t_braid B_t_current B_t_twisting t_toldCount t_braid_width t_braid_length t_current_n t_twisting_modulus) t) (va_A (w_X10_count Y h_t B_t B_t_braid B_t_current B_t_twisting t_toldCount t_braid_width t_braid_length t_current_n t_twisting_modulus) sz)) 0 0 (va_A (w_X10_count Y h_t B_t B_t_braid B_t_current B_t_twisting t_toldCount t_braid_width t_braid_length t_current_n t_twisting_modulus) sz) := by
  refine Met.ofW (cc := cX10_count) (maxL := 2) (ret := (some .int)) (by decide +kernel) rfl ?_
  intro p e s m args below meth c s₁ B hml hv
  obtain ⟨rfl, hsz, hP, hK, hD0, hE⟩ := hv
  have hts := atoms_spec (ws := wsX10_count) B.pre
  have hown : s.vm.findClass RX10 = some m.cls := findClass_of_methodNamed B.named
  have hlocks := B.notSynchronized
  subst hsz
  have hD := hD0.self (sz := s.heap.size)
  exact wk_X10_count h_t B_t B_t_braid B_t_current B_t_twisting t_toldCount t_braid_width t_braid_length t_current_n t_twisting_modulus x1 B.exec B.bytes hml hown hts hK hE (fun q h => Or.inr h) (Nat.le_refl _) (Nat.le_refl _) (fun r  H locs ls pc hP hD hS hk hd => W.iret (v := r) B.exec B.bytes B.returns (fun t ht hW => ⟨⟨r, (), rfl, hk, by rw [ht]; exact hP, va_K.moved hW.alike hK, hD⟩, hS.F ht⟩) hS.2.2 hd) hP hD h

abbrev w_X10_tell (Y : Nat → ClassId) (h_t : Nat) (B_t : Nat → Nat) (t_toldCount : Int32) (t_told : Nat → Int32) : va_W := [(h_t, .inr (9, [.ref (B_t 0), .ref (B_t 1), .ref (B_t 2), .ref (B_t 3), .ref (B_t 4), .ref (B_t 5), .ref (B_t 6), .ref (B_t 7), .ref (B_t 8), .ref (B_t 9), .ref (B_t 10), .ref (B_t 11), .ref (B_t 12), .ref (B_t 13), .int t_toldCount])), ((B_t 13), .inl (Y 0, 8, .inl t_told))]

set_option maxHeartbeats 4000000 in
set_option maxRecDepth 100000 in
theorem wk_X10_tell {p : Program} {l : Launch} {e : Env} {R : Room} {s : State} {m : MethodId} {args : Array Value} {below : List Frame} {meth : Method} {c : Code} {Q : State → Prop} {G : va_G} {Y : Nat → ClassId} {tF : Nat} {A : Nat → Prop} (h_t : Nat) (B_t : Nat → Nat) (t_toldCount : Int32) (t_told : Nat → Int32) (x1 : Int32) {K : Int32 → (Nat → Int32) → Prop} (hx : p.tables.exec = Jvm.exec) (hb : c.code = cX10_tell) (hml : c.maxLocals = 2) (hown : s.vm.findClass RX10 = some m.cls) (hts : ∀ w ∈ wsX10_tell, w.before args s = true) (hK : va_K G vwCl (tyL Y) s) (hE : Ev A tF s) (hA : ∀ q, s.heap.size ≤ q → A q) (hRf : 0 ≤ R.frames) (hRl : 0 ≤ R.locals) (hret : ∀ (t_toldCount : Int32) (t_told : Nat → Int32) (H : Heap) (locs : List Loc) (ls : Array Slot) (pc : Nat), va_P G vwCl (w_X10_tell Y h_t B_t t_toldCount t_told) H → va_D A (w_X10_tell Y h_t B_t t_toldCount t_told) → va_S A s.heap H locs → K t_toldCount t_told → decode cX10_tell pc = .ok (.return_, 1) → W p l e R s m args below meth c H locs 0 0 Q (F0 m pc ls [])) (hP : va_P G vwCl (w_X10_tell Y h_t B_t t_toldCount t_told) s.heap) (hD : va_D A (w_X10_tell Y h_t B_t t_toldCount t_told)) (h : pX10_tell t_toldCount t_told x1 K) : W p l e R s m args below meth c s.heap [] 0 0 Q (entryFrame m ([.ref h_t, .int x1] : List Value).toArray 2) := by
  have inX10 : ∀ w ∈ u_ws RX10 TX10 15, w ∈ wsX10_tell := by decide +kernel
  have hf88 := hts (.fieldLink RX10 88 "RackBench" "told" "[I") (by decide +kernel)
  have hf91 := hts (.fieldLink RX10 91 "RackBench" "toldCount" "I") (by decide +kernel)
  have hl := lv_entry ([.ref h_t, .int x1]) (n := 2) (Nat.le_of_ble_eq_true rfl)
  rw [lg_entry_eq]
  generalize (lg_sl ([.ref h_t, .int x1]) ++ List.replicate (2 - (lg_sl ([.ref h_t, .int x1])).length) Slot.unset).toArray = ls at hl ⊢
  have hl : lv_has ls 2 [(0, .ref h_t), (1, .int x1)] := hl
  generalize hH0 : s.heap = H at hP ⊢
  have hS : va_S A s.heap H [] := by rw [← hH0]; exact va_S.rf
  clear hH0
  generalize ([] : List Loc) = locs at hS ⊢
  refine lv_aload_n hx hb dX10_tell_0 rfl (lv_at hl 0 rfl) ?_
  refine va_get (D := G) (ci := 9) (v := .int t_toldCount) (C := RX10) (T := TX10) (N := 15) hx hb hts inX10 hown hK hP 0 rfl rfl 14 (by decide) hf91 (fun _ h9 => h9) rfl dX10_tell_1 ?_
  refine lv_aload_n hx hb dX10_tell_4 rfl (lv_at hl 0 rfl) ?_
  refine va_get (D := G) (ci := 9) (v := .ref (B_t 13)) (C := RX10) (T := TX10) (N := 15) hx hb hts inX10 hown hK hP 0 rfl rfl 13 (by decide) hf88 (fun _ h9 => h9) rfl dX10_tell_5 ?_
  refine va_alen hx hb hK hP 1 0 rfl rfl rfl dX10_tell_8 ?_
  obtain ⟨ht, hf⟩ := h
  refine lv_icmp_ge (tgt := 32) hx hb dX10_tell_9 (by decide) (fun c9 => ?_) (fun c9 => ?_)
  · have h := ht c9
    exact hret t_toldCount t_told H locs ls _ hP hD hS h dX10_tell_32
  · have h := hf c9
    refine lv_aload_n hx hb dX10_tell_12 rfl (lv_at hl 0 rfl) ?_
    refine va_get (D := G) (ci := 9) (v := .ref (B_t 13)) (C := RX10) (T := TX10) (N := 15) hx hb hts inX10 hown hK hP 0 rfl rfl 13 (by decide) hf88 (fun _ h9 => h9) rfl dX10_tell_13 ?_
    refine lv_aload_n hx hb dX10_tell_16 rfl (lv_at hl 0 rfl) ?_
    refine va_get (D := G) (ci := 9) (v := .int t_toldCount) (C := RX10) (T := TX10) (N := 15) hx hb hts inX10 hown hK hP 0 rfl rfl 14 (by decide) hf91 (fun _ h9 => h9) rfl dX10_tell_17 ?_
    refine lv_iload_n hx hb dX10_tell_20 rfl (lv_at hl 1 rfl) ?_
    obtain ⟨hin, h⟩ := h
    refine va_iast hx hb hK hP hD hS 1 0 rfl rfl hin dX10_tell_21 (fun H locs hP hD hS => ?_)
    have hP : va_P G vwCl (w_X10_tell Y h_t B_t t_toldCount (upd t_told (Int32.toNatClampNeg t_toldCount) x1)) H := hP
    have hD : va_D A (w_X10_tell Y h_t B_t t_toldCount (upd t_told (Int32.toNatClampNeg t_toldCount) x1)) := hD
    refine lv_aload_n hx hb dX10_tell_22 rfl (lv_at hl 0 rfl) ?_
    refine lv_dup hx hb dX10_tell_23 rfl ?_
    refine va_get (D := G) (ci := 9) (v := .int t_toldCount) (C := RX10) (T := TX10) (N := 15) hx hb hts inX10 hown hK hP 0 rfl rfl 14 (by decide) hf91 (fun _ h9 => h9) rfl dX10_tell_24 ?_
    refine lv_iconst (v := 1) hx hb dX10_tell_27 (by decide) ?_
    refine lv_iadd hx hb dX10_tell_28 ?_
    refine va_put (D := G) (ci := 9) (v := .int (t_toldCount + (1 : Int32))) (ty := .int) (C := RX10) (T := TX10) (N := 15) hx hb hts inX10 tyX10 tyX10_ok nmX10 hown hK hP hD hS 0 rfl rfl 14 (by decide) hf91 (fun _ h9 => h9) rfl (by decide +kernel) rfl rfl (Nat.le_of_ble_eq_true rfl) dX10_tell_29 (fun H locs hP hD hS => ?_)
    have hP : va_P G vwCl (w_X10_tell Y h_t B_t (t_toldCount + (1 : Int32)) (upd t_told (Int32.toNatClampNeg t_toldCount) x1)) H := hP
    have hD : va_D A (w_X10_tell Y h_t B_t (t_toldCount + (1 : Int32)) (upd t_told (Int32.toNatClampNeg t_toldCount) x1)) := hD
    exact hret (t_toldCount + (1 : Int32)) (upd t_told (Int32.toNatClampNeg t_toldCount) x1) H locs ls _ hP hD hS h dX10_tell_32

set_option maxHeartbeats 4000000 in
set_option maxRecDepth 100000 in
theorem c_X10_tell (l : Launch) (G : va_G) (Y : Nat → ClassId) (tF sz : Nat) (h_t : Nat) (B_t : Nat → Nat) (t_toldCount : Int32) (t_told : Nat → Int32) (x1 : Int32) {K : Int32 → (Nat → Int32) → Prop} (h : pX10_tell t_toldCount t_told x1 K) : Met l yX10_tell wsX10_tell ({ frames := 0, cells := 0, slots := 0, locals := 0 }) (PcM G Y tF sz (w_X10_tell Y h_t B_t t_toldCount t_told) [.ref h_t, .int x1]) (va_Qv (fun u : Int32 × (Nat → Int32) => K u.1 u.2) (fun u t => BM G Y (va_A (w_X10_tell Y h_t B_t t_toldCount t_told) sz) (w_X10_tell Y h_t B_t u.1 u.2) t) (va_A (w_X10_tell Y h_t B_t t_toldCount t_told) sz)) 0 0 (va_A (w_X10_tell Y h_t B_t t_toldCount t_told) sz) := by
  refine Met.ofW (cc := cX10_tell) (maxL := 2) (ret := none) (by decide +kernel) rfl ?_
  intro p e s m args below meth c s₁ B hml hv
  obtain ⟨rfl, hsz, hP, hK, hD0, hE⟩ := hv
  have hts := atoms_spec (ws := wsX10_tell) B.pre
  have hown : s.vm.findClass RX10 = some m.cls := findClass_of_methodNamed B.named
  have hlocks := B.notSynchronized
  subst hsz
  have hD := hD0.self (sz := s.heap.size)
  exact wk_X10_tell h_t B_t t_toldCount t_told x1 B.exec B.bytes hml hown hts hK hE (fun q h => Or.inr h) (Nat.le_refl _) (Nat.le_refl _) (fun t_toldCount t_told H locs ls pc hP hD hS hk hd => W.vret B.exec B.bytes B.returns (fun t ht hW => ⟨⟨(t_toldCount, t_told), rfl, hk, by rw [ht]; exact hP, va_K.moved hW.alike hK, hD⟩, hS.F ht⟩) hS.2.2 hd) hP hD h

abbrev w_X10_tellTriple (Y : Nat → ClassId) (h_t : Nat) (B_t : Nat → Nat) (t_toldCount : Int32) (t_told : Nat → Int32) : va_W := [(h_t, .inr (9, [.ref (B_t 0), .ref (B_t 1), .ref (B_t 2), .ref (B_t 3), .ref (B_t 4), .ref (B_t 5), .ref (B_t 6), .ref (B_t 7), .ref (B_t 8), .ref (B_t 9), .ref (B_t 10), .ref (B_t 11), .ref (B_t 12), .ref (B_t 13), .int t_toldCount])), ((B_t 13), .inl (Y 0, 8, .inl t_told))]

set_option maxHeartbeats 4000000 in
set_option maxRecDepth 100000 in
theorem wk_X10_tellTriple {p : Program} {l : Launch} {e : Env} {R : Room} {s : State} {m : MethodId} {args : Array Value} {below : List Frame} {meth : Method} {c : Code} {Q : State → Prop} {G : va_G} {Y : Nat → ClassId} {tF : Nat} {A : Nat → Prop} (h_t : Nat) (B_t : Nat → Nat) (t_toldCount : Int32) (t_told : Nat → Int32) (x1 : Int32) {K : Int32 → (Nat → Int32) → Prop} (hx : p.tables.exec = Jvm.exec) (hb : c.code = cX10_tellTriple) (hml : c.maxLocals = 2) (hown : s.vm.findClass RX10 = some m.cls) (hts : ∀ w ∈ wsX10_tellTriple, w.before args s = true) (hK : va_K G vwCl (tyL Y) s) (hE : Ev A tF s) (hA : ∀ q, s.heap.size ≤ q → A q) (hRf : 1 ≤ R.frames) (hRl : 21 ≤ R.locals) (hret : ∀ (t_toldCount : Int32) (t_told : Nat → Int32) (H : Heap) (locs : List Loc) (ls : Array Slot) (pc : Nat), va_P G vwCl (w_X10_tellTriple Y h_t B_t t_toldCount t_told) H → va_D A (w_X10_tellTriple Y h_t B_t t_toldCount t_told) → va_S A s.heap H locs → K t_toldCount t_told → decode cX10_tellTriple pc = .ok (.return_, 1) → W p l e R s m args below meth c H locs 0 0 Q (F0 m pc ls [])) (hP : va_P G vwCl (w_X10_tellTriple Y h_t B_t t_toldCount t_told) s.heap) (hD : va_D A (w_X10_tellTriple Y h_t B_t t_toldCount t_told)) (h : pX10_tellTriple t_toldCount t_told x1 K) : W p l e R s m args below meth c s.heap [] 0 0 Q (entryFrame m ([.ref h_t, .int x1] : List Value).toArray 2) := by
  have inX10 : ∀ w ∈ u_ws RX10 TX10 15, w ∈ wsX10_tellTriple := by decide +kernel
  have hf91 := hts (.fieldLink RX10 91 "RackBench" "toldCount" "I") (by decide +kernel)
  have hl := lv_entry ([.ref h_t, .int x1]) (n := 2) (Nat.le_of_ble_eq_true rfl)
  rw [lg_entry_eq]
  generalize (lg_sl ([.ref h_t, .int x1]) ++ List.replicate (2 - (lg_sl ([.ref h_t, .int x1])).length) Slot.unset).toArray = ls at hl ⊢
  have hl : lv_has ls 2 [(0, .ref h_t), (1, .int x1)] := hl
  generalize hH0 : s.heap = H at hP ⊢
  have hS : va_S A s.heap H [] := by rw [← hH0]; exact va_S.rf
  clear hH0
  generalize ([] : List Loc) = locs at hS ⊢
  refine lv_aload_n hx hb dX10_tellTriple_0 rfl (lv_at hl 0 rfl) ?_
  refine lv_iconst (v := 0) hx hb dX10_tellTriple_1 (by decide) ?_
  refine va_put (D := G) (ci := 9) (v := .int (0 : Int32)) (ty := .int) (C := RX10) (T := TX10) (N := 15) hx hb hts inX10 tyX10 tyX10_ok nmX10 hown hK hP hD hS 0 rfl rfl 14 (by decide) hf91 (fun _ h9 => h9) rfl (by decide +kernel) rfl rfl (Nat.le_of_ble_eq_true rfl) dX10_tellTriple_2 (fun H locs hP hD hS => ?_)
  have hP : va_P G vwCl (w_X10_tellTriple Y h_t B_t (0 : Int32) t_told) H := hP
  have hD : va_D A (w_X10_tellTriple Y h_t B_t (0 : Int32) t_told) := hD
  refine lv_aload_n hx hb dX10_tellTriple_5 rfl (lv_at hl 0 rfl) ?_
  refine lv_iload_n hx hb dX10_tellTriple_6 rfl (lv_at hl 1 rfl) ?_
  refine lv_bipush (v := 64) hx hb dX10_tellTriple_7 (by decide) ?_
  obtain ⟨hne, h⟩ := h
  refine lv_idiv hx hb dX10_tellTriple_9 hne ?_
  refine mc_vV ⟨hx, hb, hml, hown, hts⟩ hK hE hA hP hD hS (c_X10_tell l G Y tF H.size h_t B_t (0 : Int32) t_told (x1 / (64 : Int32)) h) (cwV 1 hts gX10_tellTriple_X10_tell rfl rfl rfl (by decide +kernel) ⟨Nat.le_trans (by decide) hRf, Nat.le_trans (by decide) hRl⟩) (fun u => (w_X10_tellTriple Y h_t B_t u.1 u.2)) [0, 1] [] [0, 1] rfl rfl rfl rfl (by decide) (fun _ => rfl) rfl 0 9 rfl rfl rfl rfl hl.1 rfl (Nat.le_of_ble_eq_true rfl) dX10_tellTriple_10 (fun u H locs h hP hD hS => ?_)
  obtain ⟨t_toldCount_10, t_told_10⟩ := u
  try dsimp only at h
  have hP : va_P G vwCl (w_X10_tellTriple Y h_t B_t t_toldCount_10 t_told_10) H := hP
  have hD : va_D A (w_X10_tellTriple Y h_t B_t t_toldCount_10 t_told_10) := hD
  refine lv_aload_n hx hb dX10_tellTriple_13 rfl (lv_at hl 0 rfl) ?_
  refine lv_iload_n hx hb dX10_tellTriple_14 rfl (lv_at hl 1 rfl) ?_
  refine lv_bipush (v := 8) hx hb dX10_tellTriple_15 (by decide) ?_
  obtain ⟨hne, h⟩ := h
  refine lv_idiv hx hb dX10_tellTriple_17 hne ?_
  refine lv_bipush (v := 8) hx hb dX10_tellTriple_18 (by decide) ?_
  obtain ⟨hne, h⟩ := h
  refine lv_irem hx hb dX10_tellTriple_20 hne ?_
  refine mc_vV ⟨hx, hb, hml, hown, hts⟩ hK hE hA hP hD hS (c_X10_tell l G Y tF H.size h_t B_t t_toldCount_10 t_told_10 ((x1 / (8 : Int32)) - (x1 / (8 : Int32)) / (8 : Int32) * (8 : Int32)) h) (cwV 1 hts gX10_tellTriple_X10_tell rfl rfl rfl (by decide +kernel) ⟨Nat.le_trans (by decide) hRf, Nat.le_trans (by decide) hRl⟩) (fun u => (w_X10_tellTriple Y h_t B_t u.1 u.2)) [0, 1] [] [0, 1] rfl rfl rfl rfl (by decide) (fun _ => rfl) rfl 0 9 rfl rfl rfl rfl hl.1 rfl (Nat.le_of_ble_eq_true rfl) dX10_tellTriple_21 (fun u H locs h hP hD hS => ?_)
  obtain ⟨t_toldCount_21, t_told_21⟩ := u
  try dsimp only at h
  have hP : va_P G vwCl (w_X10_tellTriple Y h_t B_t t_toldCount_21 t_told_21) H := hP
  have hD : va_D A (w_X10_tellTriple Y h_t B_t t_toldCount_21 t_told_21) := hD
  refine lv_aload_n hx hb dX10_tellTriple_24 rfl (lv_at hl 0 rfl) ?_
  refine lv_iload_n hx hb dX10_tellTriple_25 rfl (lv_at hl 1 rfl) ?_
  refine lv_bipush (v := 8) hx hb dX10_tellTriple_26 (by decide) ?_
  obtain ⟨hne, h⟩ := h
  refine lv_irem hx hb dX10_tellTriple_28 hne ?_
  refine mc_vV ⟨hx, hb, hml, hown, hts⟩ hK hE hA hP hD hS (c_X10_tell l G Y tF H.size h_t B_t t_toldCount_21 t_told_21 (x1 - x1 / (8 : Int32) * (8 : Int32)) h) (cwV 1 hts gX10_tellTriple_X10_tell rfl rfl rfl (by decide +kernel) ⟨Nat.le_trans (by decide) hRf, Nat.le_trans (by decide) hRl⟩) (fun u => (w_X10_tellTriple Y h_t B_t u.1 u.2)) [0, 1] [] [0, 1] rfl rfl rfl rfl (by decide) (fun _ => rfl) rfl 0 9 rfl rfl rfl rfl hl.1 rfl (Nat.le_of_ble_eq_true rfl) dX10_tellTriple_29 (fun u H locs h hP hD hS => ?_)
  obtain ⟨t_toldCount_29, t_told_29⟩ := u
  try dsimp only at h
  have hP : va_P G vwCl (w_X10_tellTriple Y h_t B_t t_toldCount_29 t_told_29) H := hP
  have hD : va_D A (w_X10_tellTriple Y h_t B_t t_toldCount_29 t_told_29) := hD
  exact hret t_toldCount_29 t_told_29 H locs ls _ hP hD hS h dX10_tellTriple_32

set_option maxHeartbeats 4000000 in
set_option maxRecDepth 100000 in
theorem c_X10_tellTriple (l : Launch) (G : va_G) (Y : Nat → ClassId) (tF sz : Nat) (h_t : Nat) (B_t : Nat → Nat) (t_toldCount : Int32) (t_told : Nat → Int32) (x1 : Int32) {K : Int32 → (Nat → Int32) → Prop} (h : pX10_tellTriple t_toldCount t_told x1 K) : Met l yX10_tellTriple wsX10_tellTriple ({ frames := 1, cells := 0, slots := 0, locals := 21 }) (PcM G Y tF sz (w_X10_tellTriple Y h_t B_t t_toldCount t_told) [.ref h_t, .int x1]) (va_Qv (fun u : Int32 × (Nat → Int32) => K u.1 u.2) (fun u t => BM G Y (va_A (w_X10_tellTriple Y h_t B_t t_toldCount t_told) sz) (w_X10_tellTriple Y h_t B_t u.1 u.2) t) (va_A (w_X10_tellTriple Y h_t B_t t_toldCount t_told) sz)) 0 0 (va_A (w_X10_tellTriple Y h_t B_t t_toldCount t_told) sz) := by
  refine Met.ofW (cc := cX10_tellTriple) (maxL := 2) (ret := none) (by decide +kernel) rfl ?_
  intro p e s m args below meth c s₁ B hml hv
  obtain ⟨rfl, hsz, hP, hK, hD0, hE⟩ := hv
  have hts := atoms_spec (ws := wsX10_tellTriple) B.pre
  have hown : s.vm.findClass RX10 = some m.cls := findClass_of_methodNamed B.named
  have hlocks := B.notSynchronized
  subst hsz
  have hD := hD0.self (sz := s.heap.size)
  exact wk_X10_tellTriple h_t B_t t_toldCount t_told x1 B.exec B.bytes hml hown hts hK hE (fun q h => Or.inr h) (Nat.le_refl _) (Nat.le_refl _) (fun t_toldCount t_told H locs ls pc hP hD hS hk hd => W.vret B.exec B.bytes B.returns (fun t ht hW => ⟨⟨(t_toldCount, t_told), rfl, hk, by rw [ht]; exact hP, va_K.moved hW.alike hK, hD⟩, hS.F ht⟩) hS.2.2 hd) hP hD h

abbrev w_X10_wrong (Y : Nat → ClassId) (h_t : Nat) (B_t : Nat → Nat) (B_t_current : Nat → Nat) (t_toldCount : Int32) (t_current_n : Int32) (t_current_cells : Nat → Int32) (t_told : Nat → Int32) : va_W := [(h_t, .inr (9, [.ref (B_t 0), .ref (B_t 1), .ref (B_t 2), .ref (B_t 3), .ref (B_t 4), .ref (B_t 5), .ref (B_t 6), .ref (B_t 7), .ref (B_t 8), .ref (B_t 9), .ref (B_t 10), .ref (B_t 11), .ref (B_t 12), .ref (B_t 13), .int t_toldCount])), ((B_t 0), .inr (6, [.ref (B_t_current 0), .int t_current_n])), ((B_t_current 0), .inl (Y 0, 64, .inl t_current_cells)), ((B_t 13), .inl (Y 0, 8, .inl t_told))]

set_option maxHeartbeats 4000000 in
set_option maxRecDepth 100000 in
theorem wk_X10_wrong {p : Program} {l : Launch} {e : Env} {R : Room} {s : State} {m : MethodId} {args : Array Value} {below : List Frame} {meth : Method} {c : Code} {Q : State → Prop} {G : va_G} {Y : Nat → ClassId} {tF : Nat} {A : Nat → Prop} (h_t : Nat) (B_t : Nat → Nat) (B_t_current : Nat → Nat) (t_toldCount : Int32) (t_current_n : Int32) (t_current_cells : Nat → Int32) (t_told : Nat → Int32) {K : Int32 → Int32 → (Nat → Int32) → Prop} (hx : p.tables.exec = Jvm.exec) (hb : c.code = cX10_wrong) (hml : c.maxLocals = 3) (hown : s.vm.findClass RX10 = some m.cls) (hts : ∀ w ∈ wsX10_wrong, w.before args s = true) (hK : va_K G vwCl (tyL Y) s) (hE : Ev A tF s) (hA : ∀ q, s.heap.size ≤ q → A q) (hRf : 2 ≤ R.frames) (hRl : 46 ≤ R.locals) (hret : ∀ (r : Int32) (t_toldCount : Int32) (t_told : Nat → Int32) (H : Heap) (locs : List Loc) (ls : Array Slot) (pc : Nat), va_P G vwCl (w_X10_wrong Y h_t B_t B_t_current t_toldCount t_current_n t_current_cells t_told) H → va_D A (w_X10_wrong Y h_t B_t B_t_current t_toldCount t_current_n t_current_cells t_told) → va_S A s.heap H locs → K r t_toldCount t_told → decode cX10_wrong pc = .ok (.ireturn, 1) → W p l e R s m args below meth c H locs 0 0 Q (F0 m pc ls [.int r])) (hP : va_P G vwCl (w_X10_wrong Y h_t B_t B_t_current t_toldCount t_current_n t_current_cells t_told) s.heap) (hD : va_D A (w_X10_wrong Y h_t B_t B_t_current t_toldCount t_current_n t_current_cells t_told)) (h : pX10_wrong t_toldCount t_current_n t_current_cells t_told K) : W p l e R s m args below meth c s.heap [] 0 0 Q (entryFrame m ([.ref h_t] : List Value).toArray 3) := by
  have inX10 : ∀ w ∈ u_ws RX10 TX10 15, w ∈ wsX10_wrong := by decide +kernel
  have hf14 := hts (.fieldLink RX10 14 "RackBench" "current" "LRackBench$Table;") (by decide +kernel)
  have hf91 := hts (.fieldLink RX10 91 "RackBench" "toldCount" "I") (by decide +kernel)
  have hl := lv_entry ([.ref h_t]) (n := 3) (Nat.le_of_ble_eq_true rfl)
  rw [lg_entry_eq]
  generalize (lg_sl ([.ref h_t]) ++ List.replicate (3 - (lg_sl ([.ref h_t])).length) Slot.unset).toArray = ls at hl ⊢
  have hl : lv_has ls 3 [(0, .ref h_t)] := hl
  generalize hH0 : s.heap = H at hP ⊢
  have hS : va_S A s.heap H [] := by rw [← hH0]; exact va_S.rf
  clear hH0
  generalize ([] : List Loc) = locs at hS ⊢
  refine lv_aload_n hx hb dX10_wrong_0 rfl (lv_at hl 0 rfl) ?_
  refine va_get (D := G) (ci := 9) (v := .ref (B_t 0)) (C := RX10) (T := TX10) (N := 15) hx hb hts inX10 hown hK hP 0 rfl rfl 0 (by decide) hf14 (fun _ h9 => h9) rfl dX10_wrong_1 ?_
  refine mc_iV ⟨hx, hb, hml, hown, hts⟩ hK hE hA hP hD hS (c_X7_firstTornRow l G Y tF H.size (B_t 0) B_t_current t_current_n t_current_cells h) (cwV 0 hts gX10_wrong_X7_firstTornRow rfl rfl rfl (by decide +kernel) ⟨Nat.le_trans (by decide) hRf, Nat.le_trans (by decide) hRl⟩) (fun u => (w_X10_wrong Y h_t B_t B_t_current t_toldCount t_current_n t_current_cells t_told)) [1, 2] [0, 3] [0, 2, 3, 1] rfl rfl rfl rfl (by decide) (fun _ => rfl) rfl 1 6 rfl rfl rfl rfl hl.1 rfl (Nat.le_of_ble_eq_true rfl) dX10_wrong_4 (fun r4 u H locs h hP hD hS => ?_)
  try dsimp only at h
  have hP : va_P G vwCl (w_X10_wrong Y h_t B_t B_t_current t_toldCount t_current_n t_current_cells t_told) H := hP
  have hD : va_D A (w_X10_wrong Y h_t B_t B_t_current t_toldCount t_current_n t_current_cells t_told) := hD
  refine lv_istore_n (lv' := [(1, .int r4), (0, .ref h_t)]) hx hb dX10_wrong_7 rfl hl (by decide) rfl (fun ls hl => ?_)
  refine lv_iload_n hx hb dX10_wrong_8 rfl (lv_at hl 0 rfl) ?_
  refine lv_iconst (v := -1) hx hb dX10_wrong_9 (by decide) ?_
  obtain ⟨ht, hf⟩ := h
  refine lv_icmp_eq (tgt := 25) hx hb dX10_wrong_10 (by decide) (fun c9 => ?_) (fun c9 => ?_)
  · have h := ht c9
    refine lv_aload_n hx hb dX10_wrong_25 rfl (lv_at hl 1 rfl) ?_
    refine va_get (D := G) (ci := 9) (v := .ref (B_t 0)) (C := RX10) (T := TX10) (N := 15) hx hb hts inX10 hown hK hP 0 rfl rfl 0 (by decide) hf14 (fun _ h9 => h9) rfl dX10_wrong_26 ?_
    refine mc_iV ⟨hx, hb, hml, hown, hts⟩ hK hE hA hP hD hS (c_X7_firstBrokenTriple l G Y tF H.size (B_t 0) B_t_current t_current_n t_current_cells h) (cwV 0 hts gX10_wrong_X7_firstBrokenTriple rfl rfl rfl (by decide +kernel) ⟨Nat.le_trans (by decide) hRf, Nat.le_trans (by decide) hRl⟩) (fun u => (w_X10_wrong Y h_t B_t B_t_current t_toldCount t_current_n t_current_cells t_told)) [1, 2] [0, 3] [0, 2, 3, 1] rfl rfl rfl rfl (by decide) (fun _ => rfl) rfl 1 6 rfl rfl rfl rfl hl.1 rfl (Nat.le_of_ble_eq_true rfl) dX10_wrong_29 (fun r29 u H locs h hP hD hS => ?_)
    try dsimp only at h
    have hP : va_P G vwCl (w_X10_wrong Y h_t B_t B_t_current t_toldCount t_current_n t_current_cells t_told) H := hP
    have hD : va_D A (w_X10_wrong Y h_t B_t B_t_current t_toldCount t_current_n t_current_cells t_told) := hD
    refine lv_istore_n (lv' := [(2, .int r29), (1, .int r4), (0, .ref h_t)]) hx hb dX10_wrong_32 rfl hl (by decide) rfl (fun ls hl => ?_)
    refine lv_iload_n hx hb dX10_wrong_33 rfl (lv_at hl 0 rfl) ?_
    refine lv_iconst (v := -1) hx hb dX10_wrong_34 (by decide) ?_
    obtain ⟨ht, hf⟩ := h
    refine lv_icmp_eq (tgt := 45) hx hb dX10_wrong_35 (by decide) (fun c9 => ?_) (fun c9 => ?_)
    · have h := ht c9
      refine lv_iconst (v := 0) hx hb dX10_wrong_45 (by decide) ?_
      exact hret (0 : Int32) t_toldCount t_told H locs ls _ hP hD hS h dX10_wrong_46
    · have h := hf c9
      refine lv_aload_n hx hb dX10_wrong_38 rfl (lv_at hl 2 rfl) ?_
      refine lv_iload_n hx hb dX10_wrong_39 rfl (lv_at hl 0 rfl) ?_
      refine mc_vV ⟨hx, hb, hml, hown, hts⟩ hK hE hA hP hD hS (c_X10_tellTriple l G Y tF H.size h_t B_t t_toldCount t_told r29 h) (cwV 1 hts gX10_wrong_X10_tellTriple rfl rfl rfl (by decide +kernel) ⟨Nat.le_trans (by decide) hRf, Nat.le_trans (by decide) hRl⟩) (fun u => (w_X10_wrong Y h_t B_t B_t_current u.1 t_current_n t_current_cells u.2)) [0, 3] [1, 2] [2, 0, 1, 3] rfl rfl rfl rfl (by decide) (fun _ => rfl) rfl 0 9 rfl rfl rfl rfl hl.1 rfl (Nat.le_of_ble_eq_true rfl) dX10_wrong_40 (fun u H locs h hP hD hS => ?_)
      obtain ⟨t_toldCount_40, t_told_40⟩ := u
      try dsimp only at h
      have hP : va_P G vwCl (w_X10_wrong Y h_t B_t B_t_current t_toldCount_40 t_current_n t_current_cells t_told_40) H := hP
      have hD : va_D A (w_X10_wrong Y h_t B_t B_t_current t_toldCount_40 t_current_n t_current_cells t_told_40) := hD
      refine lv_iconst (v := 2) hx hb dX10_wrong_43 (by decide) ?_
      exact hret (2 : Int32) t_toldCount_40 t_told_40 H locs ls _ hP hD hS h dX10_wrong_44
  · have h := hf c9
    refine lv_aload_n hx hb dX10_wrong_13 rfl (lv_at hl 1 rfl) ?_
    refine lv_iconst (v := 0) hx hb dX10_wrong_14 (by decide) ?_
    refine va_put (D := G) (ci := 9) (v := .int (0 : Int32)) (ty := .int) (C := RX10) (T := TX10) (N := 15) hx hb hts inX10 tyX10 tyX10_ok nmX10 hown hK hP hD hS 0 rfl rfl 14 (by decide) hf91 (fun _ h9 => h9) rfl (by decide +kernel) rfl rfl (Nat.le_of_ble_eq_true rfl) dX10_wrong_15 (fun H locs hP hD hS => ?_)
    have hP : va_P G vwCl (w_X10_wrong Y h_t B_t B_t_current (0 : Int32) t_current_n t_current_cells t_told) H := hP
    have hD : va_D A (w_X10_wrong Y h_t B_t B_t_current (0 : Int32) t_current_n t_current_cells t_told) := hD
    refine lv_aload_n hx hb dX10_wrong_18 rfl (lv_at hl 1 rfl) ?_
    refine lv_iload_n hx hb dX10_wrong_19 rfl (lv_at hl 0 rfl) ?_
    refine mc_vV ⟨hx, hb, hml, hown, hts⟩ hK hE hA hP hD hS (c_X10_tell l G Y tF H.size h_t B_t (0 : Int32) t_told r4 h) (cwV 1 hts gX10_wrong_X10_tell rfl rfl rfl (by decide +kernel) ⟨Nat.le_trans (by decide) hRf, Nat.le_trans (by decide) hRl⟩) (fun u => (w_X10_wrong Y h_t B_t B_t_current u.1 t_current_n t_current_cells u.2)) [0, 3] [1, 2] [2, 0, 1, 3] rfl rfl rfl rfl (by decide) (fun _ => rfl) rfl 0 9 rfl rfl rfl rfl hl.1 rfl (Nat.le_of_ble_eq_true rfl) dX10_wrong_20 (fun u H locs h hP hD hS => ?_)
    obtain ⟨t_toldCount_20, t_told_20⟩ := u
    try dsimp only at h
    have hP : va_P G vwCl (w_X10_wrong Y h_t B_t B_t_current t_toldCount_20 t_current_n t_current_cells t_told_20) H := hP
    have hD : va_D A (w_X10_wrong Y h_t B_t B_t_current t_toldCount_20 t_current_n t_current_cells t_told_20) := hD
    refine lv_iconst (v := 1) hx hb dX10_wrong_23 (by decide) ?_
    exact hret (1 : Int32) t_toldCount_20 t_told_20 H locs ls _ hP hD hS h dX10_wrong_24

set_option maxHeartbeats 4000000 in
set_option maxRecDepth 100000 in
theorem c_X10_wrong (l : Launch) (G : va_G) (Y : Nat → ClassId) (tF sz : Nat) (h_t : Nat) (B_t : Nat → Nat) (B_t_current : Nat → Nat) (t_toldCount : Int32) (t_current_n : Int32) (t_current_cells : Nat → Int32) (t_told : Nat → Int32) {K : Int32 → Int32 → (Nat → Int32) → Prop} (h : pX10_wrong t_toldCount t_current_n t_current_cells t_told K) : Met l yX10_wrong wsX10_wrong ({ frames := 2, cells := 0, slots := 0, locals := 46 }) (PcM G Y tF sz (w_X10_wrong Y h_t B_t B_t_current t_toldCount t_current_n t_current_cells t_told) [.ref h_t]) (va_Qi (fun (r : Int32) (u : Int32 × (Nat → Int32)) => K r u.1 u.2) (fun u t => BM G Y (va_A (w_X10_wrong Y h_t B_t B_t_current t_toldCount t_current_n t_current_cells t_told) sz) (w_X10_wrong Y h_t B_t B_t_current u.1 t_current_n t_current_cells u.2) t) (va_A (w_X10_wrong Y h_t B_t B_t_current t_toldCount t_current_n t_current_cells t_told) sz)) 0 0 (va_A (w_X10_wrong Y h_t B_t B_t_current t_toldCount t_current_n t_current_cells t_told) sz) := by
  refine Met.ofW (cc := cX10_wrong) (maxL := 3) (ret := (some .int)) (by decide +kernel) rfl ?_
  intro p e s m args below meth c s₁ B hml hv
  obtain ⟨rfl, hsz, hP, hK, hD0, hE⟩ := hv
  have hts := atoms_spec (ws := wsX10_wrong) B.pre
  have hown : s.vm.findClass RX10 = some m.cls := findClass_of_methodNamed B.named
  have hlocks := B.notSynchronized
  subst hsz
  have hD := hD0.self (sz := s.heap.size)
  exact wk_X10_wrong h_t B_t B_t_current t_toldCount t_current_n t_current_cells t_told B.exec B.bytes hml hown hts hK hE (fun q h => Or.inr h) (Nat.le_refl _) (Nat.le_refl _) (fun r t_toldCount t_told H locs ls pc hP hD hS hk hd => W.iret (v := r) B.exec B.bytes B.returns (fun t ht hW => ⟨⟨r, (t_toldCount, t_told), rfl, hk, by rw [ht]; exact hP, va_K.moved hW.alike hK, hD⟩, hS.F ht⟩) hS.2.2 hd) hP hD h

abbrev w_X10_splitIntoOrbits (Y : Nat → ClassId) (h_t : Nat) (B_t : Nat → Nat) (B_t_classes : Nat → Nat) (B_t_current : Nat → Nat) (t_toldCount : Int32) (t_classes_n : Int32) (t_classes_leader : Nat → Int32) (t_classes_numbers : Nat → Int32) (t_current_n : Int32) (t_current_cells : Nat → Int32) : va_W := [(h_t, .inr (9, [.ref (B_t 0), .ref (B_t 1), .ref (B_t 2), .ref (B_t 3), .ref (B_t 4), .ref (B_t 5), .ref (B_t 6), .ref (B_t 7), .ref (B_t 8), .ref (B_t 9), .ref (B_t 10), .ref (B_t 11), .ref (B_t 12), .ref (B_t 13), .int t_toldCount])), ((B_t 6), .inr (1, [.ref (B_t_classes 0), .ref (B_t_classes 1), .int t_classes_n])), ((B_t_classes 0), .inl (Y 0, 8, .inl t_classes_leader)), ((B_t_classes 1), .inl (Y 0, 8, .inl t_classes_numbers)), ((B_t 0), .inr (6, [.ref (B_t_current 0), .int t_current_n])), ((B_t_current 0), .inl (Y 0, 64, .inl t_current_cells))]

set_option maxHeartbeats 4000000 in
set_option maxRecDepth 100000 in
theorem wk_X10_splitIntoOrbits {p : Program} {l : Launch} {e : Env} {R : Room} {s : State} {m : MethodId} {args : Array Value} {below : List Frame} {meth : Method} {c : Code} {Q : State → Prop} {G : va_G} {Y : Nat → ClassId} {tF : Nat} {A : Nat → Prop} (h_t : Nat) (B_t : Nat → Nat) (B_t_classes : Nat → Nat) (B_t_current : Nat → Nat) (t_toldCount : Int32) (t_classes_n : Int32) (t_classes_leader : Nat → Int32) (t_classes_numbers : Nat → Int32) (t_current_n : Int32) (t_current_cells : Nat → Int32) {K : Int32 → Int32 → (Nat → Int32) → (Nat → Int32) → Prop} (hx : p.tables.exec = Jvm.exec) (hb : c.code = cX10_splitIntoOrbits) (hml : c.maxLocals = 3) (hown : s.vm.findClass RX10 = some m.cls) (hts : ∀ w ∈ wsX10_splitIntoOrbits, w.before args s = true) (hK : va_K G vwCl (tyL Y) s) (hE : Ev A tF s) (hA : ∀ q, s.heap.size ≤ q → A q) (hRf : 2 ≤ R.frames) (hRl : 49 ≤ R.locals) (hret : ∀ (r : Int32) (t_classes_n : Int32) (t_classes_leader : Nat → Int32) (t_classes_numbers : Nat → Int32) (H : Heap) (locs : List Loc) (ls : Array Slot) (pc : Nat), va_P G vwCl (w_X10_splitIntoOrbits Y h_t B_t B_t_classes B_t_current t_toldCount t_classes_n t_classes_leader t_classes_numbers t_current_n t_current_cells) H → va_D A (w_X10_splitIntoOrbits Y h_t B_t B_t_classes B_t_current t_toldCount t_classes_n t_classes_leader t_classes_numbers t_current_n t_current_cells) → va_S A s.heap H locs → K r t_classes_n t_classes_leader t_classes_numbers → decode cX10_splitIntoOrbits pc = .ok (.ireturn, 1) → W p l e R s m args below meth c H locs 0 0 Q (F0 m pc ls [.int r])) (hP : va_P G vwCl (w_X10_splitIntoOrbits Y h_t B_t B_t_classes B_t_current t_toldCount t_classes_n t_classes_leader t_classes_numbers t_current_n t_current_cells) s.heap) (hD : va_D A (w_X10_splitIntoOrbits Y h_t B_t B_t_classes B_t_current t_toldCount t_classes_n t_classes_leader t_classes_numbers t_current_n t_current_cells)) (h : pX10_splitIntoOrbits t_classes_n t_classes_leader t_classes_numbers t_current_n t_current_cells K) : W p l e R s m args below meth c s.heap [] 0 0 Q (entryFrame m ([.ref h_t] : List Value).toArray 3) := by
  have inX10 : ∀ w ∈ u_ws RX10 TX10 15, w ∈ wsX10_splitIntoOrbits := by decide +kernel
  have inX7 : ∀ w ∈ u_ws RX7 TX7 2, w ∈ wsX10_splitIntoOrbits := by decide +kernel
  have hf14 := hts (.fieldLink RX10 14 "RackBench" "current" "LRackBench$Table;") (by decide +kernel)
  have hf45 := hts (.fieldLink RX10 45 "RackBench" "classes" "LRackBench$Classes;") (by decide +kernel)
  have hl := lv_entry ([.ref h_t]) (n := 3) (Nat.le_of_ble_eq_true rfl)
  rw [lg_entry_eq]
  generalize (lg_sl ([.ref h_t]) ++ List.replicate (3 - (lg_sl ([.ref h_t])).length) Slot.unset).toArray = ls at hl ⊢
  have hl : lv_has ls 3 [(0, .ref h_t)] := hl
  generalize hH0 : s.heap = H at hP ⊢
  have hS : va_S A s.heap H [] := by rw [← hH0]; exact va_S.rf
  clear hH0
  generalize ([] : List Loc) = locs at hS ⊢
  refine lv_aload_n hx hb dX10_splitIntoOrbits_0 rfl (lv_at hl 0 rfl) ?_
  refine va_get (D := G) (ci := 9) (v := .ref (B_t 6)) (C := RX10) (T := TX10) (N := 15) hx hb hts inX10 hown hK hP 0 rfl rfl 6 (by decide) hf45 (fun _ h9 => h9) rfl dX10_splitIntoOrbits_1 ?_
  refine lv_aload_n hx hb dX10_splitIntoOrbits_4 rfl (lv_at hl 0 rfl) ?_
  refine va_get (D := G) (ci := 9) (v := .ref (B_t 0)) (C := RX10) (T := TX10) (N := 15) hx hb hts inX10 hown hK hP 0 rfl rfl 0 (by decide) hf14 (fun _ h9 => h9) rfl dX10_splitIntoOrbits_5 ?_
  refine va_getN (D := G) (ci := 6) (v := .int t_current_n) (C := RX7) (T := TX7) (N := 2) hx hb hts inX7 hown hK hP 4 rfl rfl 1 (by decide) (hE.nest args 0 _ rfl) (fun _ h9 => h9) rfl dX10_splitIntoOrbits_8 ?_
  refine mc_vV ⟨hx, hb, hml, hown, hts⟩ hK hE hA hP hD hS (c_X1_split l G Y tF H.size (B_t 6) B_t_classes t_classes_n t_classes_leader t_current_n h) (cwV 1 hts gX10_splitIntoOrbits_X1_split rfl rfl rfl (by decide +kernel) ⟨Nat.le_trans (by decide) hRf, Nat.le_trans (by decide) hRl⟩) (fun u => (w_X10_splitIntoOrbits Y h_t B_t B_t_classes B_t_current t_toldCount u.1 u.2 t_classes_numbers t_current_n t_current_cells)) [1, 2] [0, 3, 4, 5] [0, 4, 5, 1, 2, 3] rfl rfl rfl rfl (by decide) (fun _ => rfl) rfl 1 1 rfl rfl rfl rfl hl.1 rfl (Nat.le_of_ble_eq_true rfl) dX10_splitIntoOrbits_11 (fun u H locs h hP hD hS => ?_)
  obtain ⟨t_classes_n_11, t_classes_leader_11⟩ := u
  try dsimp only at h
  have hP : va_P G vwCl (w_X10_splitIntoOrbits Y h_t B_t B_t_classes B_t_current t_toldCount t_classes_n_11 t_classes_leader_11 t_classes_numbers t_current_n t_current_cells) H := hP
  have hD : va_D A (w_X10_splitIntoOrbits Y h_t B_t B_t_classes B_t_current t_toldCount t_classes_n_11 t_classes_leader_11 t_classes_numbers t_current_n t_current_cells) := hD
  refine lv_iconst (v := 0) hx hb dX10_splitIntoOrbits_14 (by decide) ?_
  refine lv_istore_n (lv' := [(1, .int (0 : Int32)), (0, .ref h_t)]) hx hb dX10_splitIntoOrbits_15 rfl hl (by decide) rfl (fun ls hl => ?_)
  obtain ⟨I16, m16, hI16, hB16⟩ := h
  have L16 : ∀ (t_classes_n : Int32) (t_classes_numbers : Nat → Int32) (I16 : Int32 → (Nat → Int32) → Prop) (m16 : Int32 → (Nat → Int32) → Nat), (∀ (x1 : Int32) (t_classes_leader : Nat → Int32), I16 x1 t_classes_leader → pX10_splitIntoOrbits_16 t_current_n t_current_cells K t_classes_n t_classes_numbers x1 t_classes_leader (fun x1' t_classes_leader' => I16 x1' t_classes_leader' ∧ m16 x1' t_classes_leader' < m16 x1 t_classes_leader)) → ∀ (n : Nat) (x1 : Int32) (t_classes_leader : Nat → Int32) (H : Heap) (locs : List Loc) (ls : Array Slot), I16 x1 t_classes_leader → m16 x1 t_classes_leader < n → va_P G vwCl (w_X10_splitIntoOrbits Y h_t B_t B_t_classes B_t_current t_toldCount t_classes_n t_classes_leader t_classes_numbers t_current_n t_current_cells) H → va_D A (w_X10_splitIntoOrbits Y h_t B_t B_t_classes B_t_current t_toldCount t_classes_n t_classes_leader t_classes_numbers t_current_n t_current_cells) → va_S A s.heap H locs → lv_has ls 3 [(0, .ref h_t), (1, .int x1)] → W p l e R s m args below meth c H locs 0 0 Q (F0 m 16 ls []) := by
    intro t_classes_n t_classes_numbers I16 m16 hB16 n
    induction n with
    | zero => intro x1 t_classes_leader H locs ls _ hm; exact absurd hm (Nat.not_lt_zero _)
    | succ n ih =>
      intro x1 t_classes_leader H locs ls hI hm hP hD hS hl
      obtain ⟨R16, h, rec16⟩ : ∃ R16 : Int32 → (Nat → Int32) → Prop, pX10_splitIntoOrbits_16 t_current_n t_current_cells K t_classes_n t_classes_numbers x1 t_classes_leader R16 ∧ ∀ (x1 : Int32) (t_classes_leader : Nat → Int32) (H : Heap) (locs : List Loc) (ls : Array Slot), R16 x1 t_classes_leader → va_P G vwCl (w_X10_splitIntoOrbits Y h_t B_t B_t_classes B_t_current t_toldCount t_classes_n t_classes_leader t_classes_numbers t_current_n t_current_cells) H → va_D A (w_X10_splitIntoOrbits Y h_t B_t B_t_classes B_t_current t_toldCount t_classes_n t_classes_leader t_classes_numbers t_current_n t_current_cells) → va_S A s.heap H locs → lv_has ls 3 [(0, .ref h_t), (1, .int x1)] → W p l e R s m args below meth c H locs 0 0 Q (F0 m 16 ls []) := ⟨_, hB16 x1 t_classes_leader hI, fun x1 t_classes_leader H locs ls hh hP hD hS hl => ih x1 t_classes_leader H locs ls hh.1 (Nat.lt_of_lt_of_le hh.2 (Nat.le_of_lt_succ hm)) hP hD hS hl⟩
      refine lv_iload_n hx hb dX10_splitIntoOrbits_16 rfl (lv_at hl 1 rfl) ?_
      refine lv_aload_n hx hb dX10_splitIntoOrbits_17 rfl (lv_at hl 0 rfl) ?_
      refine va_get (D := G) (ci := 9) (v := .ref (B_t 0)) (C := RX10) (T := TX10) (N := 15) hx hb hts inX10 hown hK hP 0 rfl rfl 0 (by decide) hf14 (fun _ h9 => h9) rfl dX10_splitIntoOrbits_18 ?_
      refine va_getN (D := G) (ci := 6) (v := .int t_current_n) (C := RX7) (T := TX7) (N := 2) hx hb hts inX7 hown hK hP 4 rfl rfl 1 (by decide) (hE.nest args 0 _ rfl) (fun _ h9 => h9) rfl dX10_splitIntoOrbits_21 ?_
      obtain ⟨ht, hf⟩ := h
      refine lv_icmp_ge (tgt := 70) hx hb dX10_splitIntoOrbits_24 (by decide) (fun c9 => ?_) (fun c9 => ?_)
      · have h := ht c9
        refine lv_aload_n hx hb dX10_splitIntoOrbits_70 rfl (lv_at hl 0 rfl) ?_
        refine va_get (D := G) (ci := 9) (v := .ref (B_t 6)) (C := RX10) (T := TX10) (N := 15) hx hb hts inX10 hown hK hP 0 rfl rfl 6 (by decide) hf45 (fun _ h9 => h9) rfl dX10_splitIntoOrbits_71 ?_
        refine mc_iV ⟨hx, hb, hml, hown, hts⟩ hK hE hA hP hD hS (c_X1_number l G Y tF H.size (B_t 6) B_t_classes t_classes_n t_classes_leader t_classes_numbers h) (cwV 0 hts gX10_splitIntoOrbits_X1_number rfl rfl rfl (by decide +kernel) ⟨Nat.le_trans (by decide) hRf, Nat.le_trans (by decide) hRl⟩) (fun u => (w_X10_splitIntoOrbits Y h_t B_t B_t_classes B_t_current t_toldCount t_classes_n t_classes_leader u t_current_n t_current_cells)) [1, 2, 3] [0, 4, 5] [0, 3, 4, 5, 1, 2] rfl rfl rfl rfl (by decide) (fun _ => rfl) rfl 1 1 rfl rfl rfl rfl hl.1 rfl (Nat.le_of_ble_eq_true rfl) dX10_splitIntoOrbits_74 (fun r74 u H locs h hP hD hS => ?_)
        obtain ⟨t_classes_numbers_74, rfl⟩ : ∃ z, z = u := ⟨_, rfl⟩
        try dsimp only at h
        have hP : va_P G vwCl (w_X10_splitIntoOrbits Y h_t B_t B_t_classes B_t_current t_toldCount t_classes_n t_classes_leader t_classes_numbers_74 t_current_n t_current_cells) H := hP
        have hD : va_D A (w_X10_splitIntoOrbits Y h_t B_t B_t_classes B_t_current t_toldCount t_classes_n t_classes_leader t_classes_numbers_74 t_current_n t_current_cells) := hD
        exact hret r74 t_classes_n t_classes_leader t_classes_numbers_74 H locs ls _ hP hD hS h dX10_splitIntoOrbits_77
      · have h := hf c9
        refine lv_iconst (v := 0) hx hb dX10_splitIntoOrbits_27 (by decide) ?_
        refine lv_istore_n (lv' := [(2, .int (0 : Int32)), (0, .ref h_t), (1, .int x1)]) hx hb dX10_splitIntoOrbits_28 rfl hl (by decide) rfl (fun ls hl => ?_)
        obtain ⟨I29, m29, hI29, hB29⟩ := h
        have L29 : ∀ (x1 : Int32) (I29 : Int32 → (Nat → Int32) → Prop) (m29 : Int32 → (Nat → Int32) → Nat), (∀ (x2 : Int32) (t_classes_leader : Nat → Int32), I29 x2 t_classes_leader → pX10_splitIntoOrbits_29 t_current_n t_current_cells R16 K t_classes_n t_classes_numbers x1 x2 t_classes_leader (fun x2' t_classes_leader' => I29 x2' t_classes_leader' ∧ m29 x2' t_classes_leader' < m29 x2 t_classes_leader)) → ∀ (n : Nat) (x2 : Int32) (t_classes_leader : Nat → Int32) (H : Heap) (locs : List Loc) (ls : Array Slot), I29 x2 t_classes_leader → m29 x2 t_classes_leader < n → va_P G vwCl (w_X10_splitIntoOrbits Y h_t B_t B_t_classes B_t_current t_toldCount t_classes_n t_classes_leader t_classes_numbers t_current_n t_current_cells) H → va_D A (w_X10_splitIntoOrbits Y h_t B_t B_t_classes B_t_current t_toldCount t_classes_n t_classes_leader t_classes_numbers t_current_n t_current_cells) → va_S A s.heap H locs → lv_has ls 3 [(0, .ref h_t), (1, .int x1), (2, .int x2)] → W p l e R s m args below meth c H locs 0 0 Q (F0 m 29 ls []) := by
          intro x1 I29 m29 hB29 n
          induction n with
          | zero => intro x2 t_classes_leader H locs ls _ hm; exact absurd hm (Nat.not_lt_zero _)
          | succ n ih =>
            intro x2 t_classes_leader H locs ls hI hm hP hD hS hl
            obtain ⟨R29, h, rec29⟩ : ∃ R29 : Int32 → (Nat → Int32) → Prop, pX10_splitIntoOrbits_29 t_current_n t_current_cells R16 K t_classes_n t_classes_numbers x1 x2 t_classes_leader R29 ∧ ∀ (x2 : Int32) (t_classes_leader : Nat → Int32) (H : Heap) (locs : List Loc) (ls : Array Slot), R29 x2 t_classes_leader → va_P G vwCl (w_X10_splitIntoOrbits Y h_t B_t B_t_classes B_t_current t_toldCount t_classes_n t_classes_leader t_classes_numbers t_current_n t_current_cells) H → va_D A (w_X10_splitIntoOrbits Y h_t B_t B_t_classes B_t_current t_toldCount t_classes_n t_classes_leader t_classes_numbers t_current_n t_current_cells) → va_S A s.heap H locs → lv_has ls 3 [(0, .ref h_t), (1, .int x1), (2, .int x2)] → W p l e R s m args below meth c H locs 0 0 Q (F0 m 29 ls []) := ⟨_, hB29 x2 t_classes_leader hI, fun x2 t_classes_leader H locs ls hh hP hD hS hl => ih x2 t_classes_leader H locs ls hh.1 (Nat.lt_of_lt_of_le hh.2 (Nat.le_of_lt_succ hm)) hP hD hS hl⟩
            refine lv_iload_n hx hb dX10_splitIntoOrbits_29 rfl (lv_at hl 2 rfl) ?_
            refine lv_aload_n hx hb dX10_splitIntoOrbits_30 rfl (lv_at hl 0 rfl) ?_
            refine va_get (D := G) (ci := 9) (v := .ref (B_t 0)) (C := RX10) (T := TX10) (N := 15) hx hb hts inX10 hown hK hP 0 rfl rfl 0 (by decide) hf14 (fun _ h9 => h9) rfl dX10_splitIntoOrbits_31 ?_
            refine va_getN (D := G) (ci := 6) (v := .int t_current_n) (C := RX7) (T := TX7) (N := 2) hx hb hts inX7 hown hK hP 4 rfl rfl 1 (by decide) (hE.nest args 0 _ rfl) (fun _ h9 => h9) rfl dX10_splitIntoOrbits_34 ?_
            obtain ⟨ht, hf⟩ := h
            refine lv_icmp_ge (tgt := 64) hx hb dX10_splitIntoOrbits_37 (by decide) (fun c9 => ?_) (fun c9 => ?_)
            · have h := ht c9
              refine lv_iinc (v := (x1 + 1)) (lv' := [(1, .int (x1 + 1)), (0, .ref h_t), (2, .int x2)]) hx hb dX10_splitIntoOrbits_64 hl (k := 1) rfl rfl (by decide) rfl (fun ls hl => ?_)
              refine lv_goto (tgt := 16) hx hb dX10_splitIntoOrbits_67 (by decide) ?_
              exact rec16 (x1 + 1) t_classes_leader H locs ls h hP hD hS (lv_sub hl [1, 0] rfl)
            · have h := hf c9
              refine lv_aload_n hx hb dX10_splitIntoOrbits_40 rfl (lv_at hl 0 rfl) ?_
              refine va_get (D := G) (ci := 9) (v := .ref (B_t 6)) (C := RX10) (T := TX10) (N := 15) hx hb hts inX10 hown hK hP 0 rfl rfl 6 (by decide) hf45 (fun _ h9 => h9) rfl dX10_splitIntoOrbits_41 ?_
              refine lv_iload_n hx hb dX10_splitIntoOrbits_44 rfl (lv_at hl 2 rfl) ?_
              refine lv_aload_n hx hb dX10_splitIntoOrbits_45 rfl (lv_at hl 0 rfl) ?_
              refine va_get (D := G) (ci := 9) (v := .ref (B_t 0)) (C := RX10) (T := TX10) (N := 15) hx hb hts inX10 hown hK hP 0 rfl rfl 0 (by decide) hf14 (fun _ h9 => h9) rfl dX10_splitIntoOrbits_46 ?_
              refine lv_iload_n hx hb dX10_splitIntoOrbits_49 rfl (lv_at hl 1 rfl) ?_
              refine lv_iload_n hx hb dX10_splitIntoOrbits_50 rfl (lv_at hl 2 rfl) ?_
              refine mc_iV ⟨hx, hb, hml, hown, hts⟩ hK hE hA hP hD hS (c_X7_turned l G Y tF H.size (B_t 0) B_t_current t_current_n t_current_cells x1 x2 h) (cwV 2 hts gX10_splitIntoOrbits_X7_turned rfl rfl rfl (by decide +kernel) ⟨Nat.le_trans (by decide) hRf, Nat.le_trans (by decide) hRl⟩) (fun u => (w_X10_splitIntoOrbits Y h_t B_t B_t_classes B_t_current t_toldCount t_classes_n t_classes_leader t_classes_numbers t_current_n t_current_cells)) [4, 5] [0, 1, 2, 3] [0, 1, 2, 3, 4, 5] rfl rfl rfl rfl (by decide) (fun _ => rfl) rfl 4 6 rfl rfl rfl rfl hl.1 rfl (Nat.le_of_ble_eq_true rfl) dX10_splitIntoOrbits_51 (fun r51 u H locs h hP hD hS => ?_)
              try dsimp only at h
              have hP : va_P G vwCl (w_X10_splitIntoOrbits Y h_t B_t B_t_classes B_t_current t_toldCount t_classes_n t_classes_leader t_classes_numbers t_current_n t_current_cells) H := hP
              have hD : va_D A (w_X10_splitIntoOrbits Y h_t B_t B_t_classes B_t_current t_toldCount t_classes_n t_classes_leader t_classes_numbers t_current_n t_current_cells) := hD
              refine mc_iV ⟨hx, hb, hml, hown, hts⟩ hK hE hA hP hD hS (c_X1_join l G Y tF H.size (B_t 6) B_t_classes t_classes_n t_classes_leader x2 r51 h) (cwV 2 hts gX10_splitIntoOrbits_X1_join rfl rfl rfl (by decide +kernel) ⟨Nat.le_trans (by decide) hRf, Nat.le_trans (by decide) hRl⟩) (fun u => (w_X10_splitIntoOrbits Y h_t B_t B_t_classes B_t_current t_toldCount t_classes_n u t_classes_numbers t_current_n t_current_cells)) [1, 2] [0, 3, 4, 5] [0, 4, 5, 1, 2, 3] rfl rfl rfl rfl (by decide) (fun _ => rfl) rfl 1 1 rfl rfl rfl rfl hl.1 rfl (Nat.le_of_ble_eq_true rfl) dX10_splitIntoOrbits_54 (fun r54 u H locs h hP hD hS => ?_)
              obtain ⟨t_classes_leader_54, rfl⟩ : ∃ z, z = u := ⟨_, rfl⟩
              try dsimp only at h
              have hP : va_P G vwCl (w_X10_splitIntoOrbits Y h_t B_t B_t_classes B_t_current t_toldCount t_classes_n t_classes_leader_54 t_classes_numbers t_current_n t_current_cells) H := hP
              have hD : va_D A (w_X10_splitIntoOrbits Y h_t B_t B_t_classes B_t_current t_toldCount t_classes_n t_classes_leader_54 t_classes_numbers t_current_n t_current_cells) := hD
              refine lv_pop hx hb dX10_splitIntoOrbits_57 rfl ?_
              refine lv_iinc (v := (x2 + 1)) (lv' := [(2, .int (x2 + 1)), (0, .ref h_t), (1, .int x1)]) hx hb dX10_splitIntoOrbits_58 hl (k := 2) rfl rfl (by decide) rfl (fun ls hl => ?_)
              refine lv_goto (tgt := 29) hx hb dX10_splitIntoOrbits_61 (by decide) ?_
              exact rec29 (x2 + 1) t_classes_leader_54 H locs ls h hP hD hS (lv_sub hl [1, 2, 0] rfl)
        exact L29 x1 I29 m29 hB29 _ (0 : Int32) t_classes_leader H locs ls hI29 (Nat.lt_succ_self _) hP hD hS (lv_sub hl [1, 2, 0] rfl)
  exact L16 t_classes_n_11 t_classes_numbers I16 m16 hB16 _ (0 : Int32) t_classes_leader_11 H locs ls hI16 (Nat.lt_succ_self _) hP hD hS (lv_sub hl [1, 0] rfl)

set_option maxHeartbeats 4000000 in
set_option maxRecDepth 100000 in
theorem c_X10_splitIntoOrbits (l : Launch) (G : va_G) (Y : Nat → ClassId) (tF sz : Nat) (h_t : Nat) (B_t : Nat → Nat) (B_t_classes : Nat → Nat) (B_t_current : Nat → Nat) (t_toldCount : Int32) (t_classes_n : Int32) (t_classes_leader : Nat → Int32) (t_classes_numbers : Nat → Int32) (t_current_n : Int32) (t_current_cells : Nat → Int32) {K : Int32 → Int32 → (Nat → Int32) → (Nat → Int32) → Prop} (h : pX10_splitIntoOrbits t_classes_n t_classes_leader t_classes_numbers t_current_n t_current_cells K) : Met l yX10_splitIntoOrbits wsX10_splitIntoOrbits ({ frames := 2, cells := 0, slots := 0, locals := 49 }) (PcM G Y tF sz (w_X10_splitIntoOrbits Y h_t B_t B_t_classes B_t_current t_toldCount t_classes_n t_classes_leader t_classes_numbers t_current_n t_current_cells) [.ref h_t]) (va_Qi (fun (r : Int32) (u : Int32 × (Nat → Int32) × (Nat → Int32)) => K r u.1 u.2.1 u.2.2) (fun u t => BM G Y (va_A (w_X10_splitIntoOrbits Y h_t B_t B_t_classes B_t_current t_toldCount t_classes_n t_classes_leader t_classes_numbers t_current_n t_current_cells) sz) (w_X10_splitIntoOrbits Y h_t B_t B_t_classes B_t_current t_toldCount u.1 u.2.1 u.2.2 t_current_n t_current_cells) t) (va_A (w_X10_splitIntoOrbits Y h_t B_t B_t_classes B_t_current t_toldCount t_classes_n t_classes_leader t_classes_numbers t_current_n t_current_cells) sz)) 0 0 (va_A (w_X10_splitIntoOrbits Y h_t B_t B_t_classes B_t_current t_toldCount t_classes_n t_classes_leader t_classes_numbers t_current_n t_current_cells) sz) := by
  refine Met.ofW (cc := cX10_splitIntoOrbits) (maxL := 3) (ret := (some .int)) (by decide +kernel) rfl ?_
  intro p e s m args below meth c s₁ B hml hv
  obtain ⟨rfl, hsz, hP, hK, hD0, hE⟩ := hv
  have hts := atoms_spec (ws := wsX10_splitIntoOrbits) B.pre
  have hown : s.vm.findClass RX10 = some m.cls := findClass_of_methodNamed B.named
  have hlocks := B.notSynchronized
  subst hsz
  have hD := hD0.self (sz := s.heap.size)
  exact wk_X10_splitIntoOrbits h_t B_t B_t_classes B_t_current t_toldCount t_classes_n t_classes_leader t_classes_numbers t_current_n t_current_cells B.exec B.bytes hml hown hts hK hE (fun q h => Or.inr h) (Nat.le_refl _) (Nat.le_refl _) (fun r t_classes_n t_classes_leader t_classes_numbers H locs ls pc hP hD hS hk hd => W.iret (v := r) B.exec B.bytes B.returns (fun t ht hW => ⟨⟨r, (t_classes_n, t_classes_leader, t_classes_numbers), rfl, hk, by rw [ht]; exact hP, va_K.moved hW.alike hK, hD⟩, hS.F ht⟩) hS.2.2 hd) hP hD h

abbrev w_X10_holds (Y : Nat → ClassId) (h_t : Nat) (B_t : Nat → Nat) (B_t_classes : Nat → Nat) (B_t_current : Nat → Nat) (t_toldCount : Int32) (t_classes_n : Int32) (t_classes_leader : Nat → Int32) (t_classes_numbers : Nat → Int32) (t_current_n : Int32) (t_current_cells : Nat → Int32) : va_W := [(h_t, .inr (9, [.ref (B_t 0), .ref (B_t 1), .ref (B_t 2), .ref (B_t 3), .ref (B_t 4), .ref (B_t 5), .ref (B_t 6), .ref (B_t 7), .ref (B_t 8), .ref (B_t 9), .ref (B_t 10), .ref (B_t 11), .ref (B_t 12), .ref (B_t 13), .int t_toldCount])), ((B_t 6), .inr (1, [.ref (B_t_classes 0), .ref (B_t_classes 1), .int t_classes_n])), ((B_t_classes 0), .inl (Y 0, 8, .inl t_classes_leader)), ((B_t_classes 1), .inl (Y 0, 8, .inl t_classes_numbers)), ((B_t 0), .inr (6, [.ref (B_t_current 0), .int t_current_n])), ((B_t_current 0), .inl (Y 0, 64, .inl t_current_cells))]

set_option maxHeartbeats 4000000 in
set_option maxRecDepth 100000 in
theorem wk_X10_holds {p : Program} {l : Launch} {e : Env} {R : Room} {s : State} {m : MethodId} {args : Array Value} {below : List Frame} {meth : Method} {c : Code} {Q : State → Prop} {G : va_G} {Y : Nat → ClassId} {tF : Nat} {A : Nat → Prop} (h_t : Nat) (B_t : Nat → Nat) (B_t_classes : Nat → Nat) (B_t_current : Nat → Nat) (t_toldCount : Int32) (t_classes_n : Int32) (t_classes_leader : Nat → Int32) (t_classes_numbers : Nat → Int32) (t_current_n : Int32) (t_current_cells : Nat → Int32) (x1 : Int32) {K : Int32 → Int32 → (Nat → Int32) → (Nat → Int32) → Prop} (hx : p.tables.exec = Jvm.exec) (hb : c.code = cX10_holds) (hml : c.maxLocals = 2) (hown : s.vm.findClass RX10 = some m.cls) (hts : ∀ w ∈ wsX10_holds, w.before args s = true) (hK : va_K G vwCl (tyL Y) s) (hE : Ev A tF s) (hA : ∀ q, s.heap.size ≤ q → A q) (hRf : 3 ≤ R.frames) (hRl : 71 ≤ R.locals) (hret : ∀ (r : Int32) (t_classes_n : Int32) (t_classes_leader : Nat → Int32) (t_classes_numbers : Nat → Int32) (H : Heap) (locs : List Loc) (ls : Array Slot) (pc : Nat), va_P G vwCl (w_X10_holds Y h_t B_t B_t_classes B_t_current t_toldCount t_classes_n t_classes_leader t_classes_numbers t_current_n t_current_cells) H → va_D A (w_X10_holds Y h_t B_t B_t_classes B_t_current t_toldCount t_classes_n t_classes_leader t_classes_numbers t_current_n t_current_cells) → va_S A s.heap H locs → zb r → K r t_classes_n t_classes_leader t_classes_numbers → decode cX10_holds pc = .ok (.ireturn, 1) → W p l e R s m args below meth c H locs 0 0 Q (F0 m pc ls [.int r])) (hP : va_P G vwCl (w_X10_holds Y h_t B_t B_t_classes B_t_current t_toldCount t_classes_n t_classes_leader t_classes_numbers t_current_n t_current_cells) s.heap) (hD : va_D A (w_X10_holds Y h_t B_t B_t_classes B_t_current t_toldCount t_classes_n t_classes_leader t_classes_numbers t_current_n t_current_cells)) (h : pX10_holds t_classes_n t_classes_leader t_classes_numbers t_current_n t_current_cells x1 K) : W p l e R s m args below meth c s.heap [] 0 0 Q (entryFrame m ([.ref h_t, .int x1] : List Value).toArray 2) := by
  have inX10 : ∀ w ∈ u_ws RX10 TX10 15, w ∈ wsX10_holds := by decide +kernel
  have hf14 := hts (.fieldLink RX10 14 "RackBench" "current" "LRackBench$Table;") (by decide +kernel)
  have hl := lv_entry ([.ref h_t, .int x1]) (n := 2) (Nat.le_of_ble_eq_true rfl)
  rw [lg_entry_eq]
  generalize (lg_sl ([.ref h_t, .int x1]) ++ List.replicate (2 - (lg_sl ([.ref h_t, .int x1])).length) Slot.unset).toArray = ls at hl ⊢
  have hl : lv_has ls 2 [(0, .ref h_t), (1, .int x1)] := hl
  generalize hH0 : s.heap = H at hP ⊢
  have hS : va_S A s.heap H [] := by rw [← hH0]; exact va_S.rf
  clear hH0
  generalize ([] : List Loc) = locs at hS ⊢
  refine lv_iload_n hx hb dX10_holds_0 rfl (lv_at hl 1 rfl) ?_
  obtain ⟨hs0, hs1, hs2, hs3, hsd⟩ := h
  by_cases cs0 : x1 = 0
  · have h := hs0 cs0
    refine lv_tableIn (tgt := 32) hx hb dX10_holds_1 (by rw [cs0]; decide) (by rw [cs0]; decide) (by rw [cs0]; rfl) (by decide) ?_
    refine lv_aload_n hx hb dX10_holds_32 rfl (lv_at hl 0 rfl) ?_
    refine va_get (D := G) (ci := 9) (v := .ref (B_t 0)) (C := RX10) (T := TX10) (N := 15) hx hb hts inX10 hown hK hP 0 rfl rfl 0 (by decide) hf14 (fun _ h9 => h9) rfl dX10_holds_33 ?_
    refine mc_iV ⟨hx, hb, hml, hown, hts⟩ hK hE hA hP hD hS (c_X7_isIdempotent l G Y tF H.size (B_t 0) B_t_current t_current_n t_current_cells h) (cwV 0 hts gX10_holds_X7_isIdempotent rfl rfl rfl (by decide +kernel) ⟨Nat.le_trans (by decide) hRf, Nat.le_trans (by decide) hRl⟩) (fun u => (w_X10_holds Y h_t B_t B_t_classes B_t_current t_toldCount t_classes_n t_classes_leader t_classes_numbers t_current_n t_current_cells)) [4, 5] [0, 1, 2, 3] [0, 1, 2, 3, 4, 5] rfl rfl rfl rfl (by decide) (fun _ => rfl) rfl 4 6 rfl rfl rfl rfl hl.1 rfl (Nat.le_of_ble_eq_true rfl) dX10_holds_36 (fun r36 u H locs h hP hD hS => ?_)
    try dsimp only at h
    have hP : va_P G vwCl (w_X10_holds Y h_t B_t B_t_classes B_t_current t_toldCount t_classes_n t_classes_leader t_classes_numbers t_current_n t_current_cells) H := hP
    have hD : va_D A (w_X10_holds Y h_t B_t B_t_classes B_t_current t_toldCount t_classes_n t_classes_leader t_classes_numbers t_current_n t_current_cells) := hD
    obtain ⟨hz, h⟩ := h
    exact hret r36 t_classes_n t_classes_leader t_classes_numbers H locs ls _ hP hD hS hz h dX10_holds_39
  by_cases cs1 : x1 = 1
  · have h := hs1 cs1
    refine lv_tableIn (tgt := 40) hx hb dX10_holds_1 (by rw [cs1]; decide) (by rw [cs1]; decide) (by rw [cs1]; rfl) (by decide) ?_
    refine lv_aload_n hx hb dX10_holds_40 rfl (lv_at hl 0 rfl) ?_
    refine va_get (D := G) (ci := 9) (v := .ref (B_t 0)) (C := RX10) (T := TX10) (N := 15) hx hb hts inX10 hown hK hP 0 rfl rfl 0 (by decide) hf14 (fun _ h9 => h9) rfl dX10_holds_41 ?_
    refine mc_iV ⟨hx, hb, hml, hown, hts⟩ hK hE hA hP hD hS (c_X7_isInvolutory l G Y tF H.size (B_t 0) B_t_current t_current_n t_current_cells h) (cwV 0 hts gX10_holds_X7_isInvolutory rfl rfl rfl (by decide +kernel) ⟨Nat.le_trans (by decide) hRf, Nat.le_trans (by decide) hRl⟩) (fun u => (w_X10_holds Y h_t B_t B_t_classes B_t_current t_toldCount t_classes_n t_classes_leader t_classes_numbers t_current_n t_current_cells)) [4, 5] [0, 1, 2, 3] [0, 1, 2, 3, 4, 5] rfl rfl rfl rfl (by decide) (fun _ => rfl) rfl 4 6 rfl rfl rfl rfl hl.1 rfl (Nat.le_of_ble_eq_true rfl) dX10_holds_44 (fun r44 u H locs h hP hD hS => ?_)
    try dsimp only at h
    have hP : va_P G vwCl (w_X10_holds Y h_t B_t B_t_classes B_t_current t_toldCount t_classes_n t_classes_leader t_classes_numbers t_current_n t_current_cells) H := hP
    have hD : va_D A (w_X10_holds Y h_t B_t B_t_classes B_t_current t_toldCount t_classes_n t_classes_leader t_classes_numbers t_current_n t_current_cells) := hD
    obtain ⟨hz, h⟩ := h
    exact hret r44 t_classes_n t_classes_leader t_classes_numbers H locs ls _ hP hD hS hz h dX10_holds_47
  by_cases cs2 : x1 = 2
  · have h := hs2 cs2
    refine lv_tableIn (tgt := 48) hx hb dX10_holds_1 (by rw [cs2]; decide) (by rw [cs2]; decide) (by rw [cs2]; rfl) (by decide) ?_
    refine lv_aload_n hx hb dX10_holds_48 rfl (lv_at hl 0 rfl) ?_
    refine mc_iV ⟨hx, hb, hml, hown, hts⟩ hK hE hA hP hD hS (c_X10_splitIntoOrbits l G Y tF H.size h_t B_t B_t_classes B_t_current t_toldCount t_classes_n t_classes_leader t_classes_numbers t_current_n t_current_cells h) (cwV 0 hts gX10_holds_X10_splitIntoOrbits rfl rfl rfl (by decide +kernel) ⟨Nat.le_trans (by decide) hRf, Nat.le_trans (by decide) hRl⟩) (fun u => (w_X10_holds Y h_t B_t B_t_classes B_t_current t_toldCount u.1 u.2.1 u.2.2 t_current_n t_current_cells)) [0, 1, 2, 3, 4, 5] [] [0, 1, 2, 3, 4, 5] rfl rfl rfl rfl (by decide) (fun _ => rfl) rfl 0 9 rfl rfl rfl rfl hl.1 rfl (Nat.le_of_ble_eq_true rfl) dX10_holds_49 (fun r49 u H locs h hP hD hS => ?_)
    obtain ⟨t_classes_n_49, t_classes_leader_49, t_classes_numbers_49⟩ := u
    try dsimp only at h
    have hP : va_P G vwCl (w_X10_holds Y h_t B_t B_t_classes B_t_current t_toldCount t_classes_n_49 t_classes_leader_49 t_classes_numbers_49 t_current_n t_current_cells) H := hP
    have hD : va_D A (w_X10_holds Y h_t B_t B_t_classes B_t_current t_toldCount t_classes_n_49 t_classes_leader_49 t_classes_numbers_49 t_current_n t_current_cells) := hD
    refine lv_iconst (v := 1) hx hb dX10_holds_52 (by decide) ?_
    obtain ⟨ht, hf⟩ := h
    refine lv_icmp_ne (tgt := 60) hx hb dX10_holds_53 (by decide) (fun c9 => ?_) (fun c9 => ?_)
    · have h := ht c9
      refine lv_iconst (v := 0) hx hb dX10_holds_60 (by decide) ?_
      obtain ⟨hz, h⟩ := h
      exact hret (0 : Int32) t_classes_n_49 t_classes_leader_49 t_classes_numbers_49 H locs ls _ hP hD hS hz h dX10_holds_61
    · have h := hf c9
      refine lv_iconst (v := 1) hx hb dX10_holds_56 (by decide) ?_
      refine lv_goto (tgt := 61) hx hb dX10_holds_57 (by decide) ?_
      obtain ⟨hz, h⟩ := h
      exact hret (1 : Int32) t_classes_n_49 t_classes_leader_49 t_classes_numbers_49 H locs ls _ hP hD hS hz h dX10_holds_61
  by_cases cs3 : x1 = 3
  · have h := hs3 cs3
    refine lv_tableIn (tgt := 62) hx hb dX10_holds_1 (by rw [cs3]; decide) (by rw [cs3]; decide) (by rw [cs3]; rfl) (by decide) ?_
    refine lv_aload_n hx hb dX10_holds_62 rfl (lv_at hl 0 rfl) ?_
    refine va_get (D := G) (ci := 9) (v := .ref (B_t 0)) (C := RX10) (T := TX10) (N := 15) hx hb hts inX10 hown hK hP 0 rfl rfl 0 (by decide) hf14 (fun _ h9 => h9) rfl dX10_holds_63 ?_
    refine mc_iV ⟨hx, hb, hml, hown, hts⟩ hK hE hA hP hD hS (c_X7_rowsDiffer l G Y tF H.size (B_t 0) B_t_current t_current_n t_current_cells h) (cwV 0 hts gX10_holds_X7_rowsDiffer rfl rfl rfl (by decide +kernel) ⟨Nat.le_trans (by decide) hRf, Nat.le_trans (by decide) hRl⟩) (fun u => (w_X10_holds Y h_t B_t B_t_classes B_t_current t_toldCount t_classes_n t_classes_leader t_classes_numbers t_current_n t_current_cells)) [4, 5] [0, 1, 2, 3] [0, 1, 2, 3, 4, 5] rfl rfl rfl rfl (by decide) (fun _ => rfl) rfl 4 6 rfl rfl rfl rfl hl.1 rfl (Nat.le_of_ble_eq_true rfl) dX10_holds_66 (fun r66 u H locs h hP hD hS => ?_)
    try dsimp only at h
    have hP : va_P G vwCl (w_X10_holds Y h_t B_t B_t_classes B_t_current t_toldCount t_classes_n t_classes_leader t_classes_numbers t_current_n t_current_cells) H := hP
    have hD : va_D A (w_X10_holds Y h_t B_t B_t_classes B_t_current t_toldCount t_classes_n t_classes_leader t_classes_numbers t_current_n t_current_cells) := hD
    obtain ⟨hz, h⟩ := h
    exact hret r66 t_classes_n t_classes_leader t_classes_numbers H locs ls _ hP hD hS hz h dX10_holds_69
  have h := hsd cs0 cs1 cs2 cs3
  refine lv_tableOut (tgt := 70) hx hb dX10_holds_1 (sw_out4 cs0 cs1 cs2 cs3) (by decide) ?_
  refine lv_aload_n hx hb dX10_holds_70 rfl (lv_at hl 0 rfl) ?_
  refine va_get (D := G) (ci := 9) (v := .ref (B_t 0)) (C := RX10) (T := TX10) (N := 15) hx hb hts inX10 hown hK hP 0 rfl rfl 0 (by decide) hf14 (fun _ h9 => h9) rfl dX10_holds_71 ?_
  refine mc_iV ⟨hx, hb, hml, hown, hts⟩ hK hE hA hP hD hS (c_X7_columnsHaveAll l G Y tF H.size (B_t 0) B_t_current t_current_n t_current_cells h) (cwV 0 hts gX10_holds_X7_columnsHaveAll rfl rfl rfl (by decide +kernel) ⟨Nat.le_trans (by decide) hRf, Nat.le_trans (by decide) hRl⟩) (fun u => (w_X10_holds Y h_t B_t B_t_classes B_t_current t_toldCount t_classes_n t_classes_leader t_classes_numbers t_current_n t_current_cells)) [4, 5] [0, 1, 2, 3] [0, 1, 2, 3, 4, 5] rfl rfl rfl rfl (by decide) (fun _ => rfl) rfl 4 6 rfl rfl rfl rfl hl.1 rfl (Nat.le_of_ble_eq_true rfl) dX10_holds_74 (fun r74 u H locs h hP hD hS => ?_)
  try dsimp only at h
  have hP : va_P G vwCl (w_X10_holds Y h_t B_t B_t_classes B_t_current t_toldCount t_classes_n t_classes_leader t_classes_numbers t_current_n t_current_cells) H := hP
  have hD : va_D A (w_X10_holds Y h_t B_t B_t_classes B_t_current t_toldCount t_classes_n t_classes_leader t_classes_numbers t_current_n t_current_cells) := hD
  obtain ⟨hz, h⟩ := h
  exact hret r74 t_classes_n t_classes_leader t_classes_numbers H locs ls _ hP hD hS hz h dX10_holds_77

set_option maxHeartbeats 4000000 in
set_option maxRecDepth 100000 in
theorem c_X10_holds (l : Launch) (G : va_G) (Y : Nat → ClassId) (tF sz : Nat) (h_t : Nat) (B_t : Nat → Nat) (B_t_classes : Nat → Nat) (B_t_current : Nat → Nat) (t_toldCount : Int32) (t_classes_n : Int32) (t_classes_leader : Nat → Int32) (t_classes_numbers : Nat → Int32) (t_current_n : Int32) (t_current_cells : Nat → Int32) (x1 : Int32) {K : Int32 → Int32 → (Nat → Int32) → (Nat → Int32) → Prop} (h : pX10_holds t_classes_n t_classes_leader t_classes_numbers t_current_n t_current_cells x1 K) : Met l yX10_holds wsX10_holds ({ frames := 3, cells := 0, slots := 0, locals := 71 }) (PcM G Y tF sz (w_X10_holds Y h_t B_t B_t_classes B_t_current t_toldCount t_classes_n t_classes_leader t_classes_numbers t_current_n t_current_cells) [.ref h_t, .int x1]) (va_Qi (fun (r : Int32) (u : Int32 × (Nat → Int32) × (Nat → Int32)) => K r u.1 u.2.1 u.2.2) (fun u t => BM G Y (va_A (w_X10_holds Y h_t B_t B_t_classes B_t_current t_toldCount t_classes_n t_classes_leader t_classes_numbers t_current_n t_current_cells) sz) (w_X10_holds Y h_t B_t B_t_classes B_t_current t_toldCount u.1 u.2.1 u.2.2 t_current_n t_current_cells) t) (va_A (w_X10_holds Y h_t B_t B_t_classes B_t_current t_toldCount t_classes_n t_classes_leader t_classes_numbers t_current_n t_current_cells) sz)) 0 0 (va_A (w_X10_holds Y h_t B_t B_t_classes B_t_current t_toldCount t_classes_n t_classes_leader t_classes_numbers t_current_n t_current_cells) sz) := by
  refine Met.ofW (cc := cX10_holds) (maxL := 2) (ret := (some .boolean)) (by decide +kernel) rfl ?_
  intro p e s m args below meth c s₁ B hml hv
  obtain ⟨rfl, hsz, hP, hK, hD0, hE⟩ := hv
  have hts := atoms_spec (ws := wsX10_holds) B.pre
  have hown : s.vm.findClass RX10 = some m.cls := findClass_of_methodNamed B.named
  have hlocks := B.notSynchronized
  subst hsz
  have hD := hD0.self (sz := s.heap.size)
  exact wk_X10_holds h_t B_t B_t_classes B_t_current t_toldCount t_classes_n t_classes_leader t_classes_numbers t_current_n t_current_cells x1 B.exec B.bytes hml hown hts hK hE (fun q h => Or.inr h) (Nat.le_refl _) (Nat.le_refl _) (fun r t_classes_n t_classes_leader t_classes_numbers H locs ls pc hP hD hS hz hk hd => W.zret (v := r) B.exec B.bytes B.returns hz.n (fun t ht hW => ⟨⟨r, (t_classes_n, t_classes_leader, t_classes_numbers), rfl, hk, by rw [ht]; exact hP, va_K.moved hW.alike hK, hD⟩, hS.F ht⟩) hS.2.2 hd) hP hD h

abbrev w_X10_is (Y : Nat → ClassId) (h_t : Nat) (B_t : Nat → Nat) (B_t_classes : Nat → Nat) (B_t_current : Nat → Nat) (t_toldCount : Int32) (t_classes_n : Int32) (t_classes_leader : Nat → Int32) (t_classes_numbers : Nat → Int32) (t_current_n : Int32) (t_current_cells : Nat → Int32) : va_W := [(h_t, .inr (9, [.ref (B_t 0), .ref (B_t 1), .ref (B_t 2), .ref (B_t 3), .ref (B_t 4), .ref (B_t 5), .ref (B_t 6), .ref (B_t 7), .ref (B_t 8), .ref (B_t 9), .ref (B_t 10), .ref (B_t 11), .ref (B_t 12), .ref (B_t 13), .int t_toldCount])), ((B_t 6), .inr (1, [.ref (B_t_classes 0), .ref (B_t_classes 1), .int t_classes_n])), ((B_t_classes 0), .inl (Y 0, 8, .inl t_classes_leader)), ((B_t_classes 1), .inl (Y 0, 8, .inl t_classes_numbers)), ((B_t 0), .inr (6, [.ref (B_t_current 0), .int t_current_n])), ((B_t_current 0), .inl (Y 0, 64, .inl t_current_cells))]

set_option maxHeartbeats 4000000 in
set_option maxRecDepth 100000 in
theorem wk_X10_is {p : Program} {l : Launch} {e : Env} {R : Room} {s : State} {m : MethodId} {args : Array Value} {below : List Frame} {meth : Method} {c : Code} {Q : State → Prop} {G : va_G} {Y : Nat → ClassId} {tF : Nat} {A : Nat → Prop} (h_t : Nat) (B_t : Nat → Nat) (B_t_classes : Nat → Nat) (B_t_current : Nat → Nat) (t_toldCount : Int32) (t_classes_n : Int32) (t_classes_leader : Nat → Int32) (t_classes_numbers : Nat → Int32) (t_current_n : Int32) (t_current_cells : Nat → Int32) (x1 : Int32) {K : Int32 → Int32 → (Nat → Int32) → (Nat → Int32) → Prop} (hx : p.tables.exec = Jvm.exec) (hb : c.code = cX10_is) (hml : c.maxLocals = 2) (hown : s.vm.findClass RX10 = some m.cls) (hts : ∀ w ∈ wsX10_is, w.before args s = true) (hK : va_K G vwCl (tyL Y) s) (hE : Ev A tF s) (hA : ∀ q, s.heap.size ≤ q → A q) (hRf : 4 ≤ R.frames) (hRl : 92 ≤ R.locals) (hret : ∀ (r : Int32) (t_classes_n : Int32) (t_classes_leader : Nat → Int32) (t_classes_numbers : Nat → Int32) (H : Heap) (locs : List Loc) (ls : Array Slot) (pc : Nat), va_P G vwCl (w_X10_is Y h_t B_t B_t_classes B_t_current t_toldCount t_classes_n t_classes_leader t_classes_numbers t_current_n t_current_cells) H → va_D A (w_X10_is Y h_t B_t B_t_classes B_t_current t_toldCount t_classes_n t_classes_leader t_classes_numbers t_current_n t_current_cells) → va_S A s.heap H locs → K r t_classes_n t_classes_leader t_classes_numbers → decode cX10_is pc = .ok (.ireturn, 1) → W p l e R s m args below meth c H locs 0 0 Q (F0 m pc ls [.int r])) (hP : va_P G vwCl (w_X10_is Y h_t B_t B_t_classes B_t_current t_toldCount t_classes_n t_classes_leader t_classes_numbers t_current_n t_current_cells) s.heap) (hD : va_D A (w_X10_is Y h_t B_t B_t_classes B_t_current t_toldCount t_classes_n t_classes_leader t_classes_numbers t_current_n t_current_cells)) (h : pX10_is t_classes_n t_classes_leader t_classes_numbers t_current_n t_current_cells x1 K) : W p l e R s m args below meth c s.heap [] 0 0 Q (entryFrame m ([.ref h_t, .int x1] : List Value).toArray 2) := by
  have inX10 : ∀ w ∈ u_ws RX10 TX10 15, w ∈ wsX10_is := by decide +kernel
  have hf14 := hts (.fieldLink RX10 14 "RackBench" "current" "LRackBench$Table;") (by decide +kernel)
  have hl := lv_entry ([.ref h_t, .int x1]) (n := 2) (Nat.le_of_ble_eq_true rfl)
  rw [lg_entry_eq]
  generalize (lg_sl ([.ref h_t, .int x1]) ++ List.replicate (2 - (lg_sl ([.ref h_t, .int x1])).length) Slot.unset).toArray = ls at hl ⊢
  have hl : lv_has ls 2 [(0, .ref h_t), (1, .int x1)] := hl
  generalize hH0 : s.heap = H at hP ⊢
  have hS : va_S A s.heap H [] := by rw [← hH0]; exact va_S.rf
  clear hH0
  generalize ([] : List Loc) = locs at hS ⊢
  refine lv_iload_n hx hb dX10_is_0 rfl (lv_at hl 1 rfl) ?_
  obtain ⟨ht, hf⟩ := h
  refine lv_if_lt (tgt := 19) hx hb dX10_is_1 (by decide) (fun c9 => ?_) (fun c9 => ?_)
  · have h := ht c9
    refine lv_iconst (v := -1) hx hb dX10_is_19 (by decide) ?_
    exact hret (-1 : Int32) t_classes_n t_classes_leader t_classes_numbers H locs ls _ hP hD hS h dX10_is_20
  · have h := hf c9
    refine lv_iload_n hx hb dX10_is_4 rfl (lv_at hl 1 rfl) ?_
    refine lv_iconst (v := 4) hx hb dX10_is_5 (by decide) ?_
    obtain ⟨ht, hf⟩ := h
    refine lv_icmp_gt (tgt := 19) hx hb dX10_is_6 (by decide) (fun c9 => ?_) (fun c9 => ?_)
    · have h := ht c9
      refine lv_iconst (v := -1) hx hb dX10_is_19 (by decide) ?_
      exact hret (-1 : Int32) t_classes_n t_classes_leader t_classes_numbers H locs ls _ hP hD hS h dX10_is_20
    · have h := hf c9
      refine lv_aload_n hx hb dX10_is_9 rfl (lv_at hl 0 rfl) ?_
      refine va_get (D := G) (ci := 9) (v := .ref (B_t 0)) (C := RX10) (T := TX10) (N := 15) hx hb hts inX10 hown hK hP 0 rfl rfl 0 (by decide) hf14 (fun _ h9 => h9) rfl dX10_is_10 ?_
      refine mc_iV ⟨hx, hb, hml, hown, hts⟩ hK hE hA hP hD hS (c_X7_isRack l G Y tF H.size (B_t 0) B_t_current t_current_n t_current_cells h) (cwV 0 hts gX10_is_X7_isRack rfl rfl rfl (by decide +kernel) ⟨Nat.le_trans (by decide) hRf, Nat.le_trans (by decide) hRl⟩) (fun u => (w_X10_is Y h_t B_t B_t_classes B_t_current t_toldCount t_classes_n t_classes_leader t_classes_numbers t_current_n t_current_cells)) [4, 5] [0, 1, 2, 3] [0, 1, 2, 3, 4, 5] rfl rfl rfl rfl (by decide) (fun _ => rfl) rfl 4 6 rfl rfl rfl rfl hl.1 rfl (Nat.le_of_ble_eq_true rfl) dX10_is_13 (fun r13 u H locs h hP hD hS => ?_)
      try dsimp only at h
      have hP : va_P G vwCl (w_X10_is Y h_t B_t B_t_classes B_t_current t_toldCount t_classes_n t_classes_leader t_classes_numbers t_current_n t_current_cells) H := hP
      have hD : va_D A (w_X10_is Y h_t B_t B_t_classes B_t_current t_toldCount t_classes_n t_classes_leader t_classes_numbers t_current_n t_current_cells) := hD
      obtain ⟨ht, hf⟩ := h
      refine lv_if_ne (tgt := 21) hx hb dX10_is_16 (by decide) (fun c9 => ?_) (fun c9 => ?_)
      · have h := ht c9
        refine lv_aload_n hx hb dX10_is_21 rfl (lv_at hl 0 rfl) ?_
        refine lv_iload_n hx hb dX10_is_22 rfl (lv_at hl 1 rfl) ?_
        refine mc_iV ⟨hx, hb, hml, hown, hts⟩ hK hE hA hP hD hS (c_X10_holds l G Y tF H.size h_t B_t B_t_classes B_t_current t_toldCount t_classes_n t_classes_leader t_classes_numbers t_current_n t_current_cells x1 h) (cwV 1 hts gX10_is_X10_holds rfl rfl rfl (by decide +kernel) ⟨Nat.le_trans (by decide) hRf, Nat.le_trans (by decide) hRl⟩) (fun u => (w_X10_is Y h_t B_t B_t_classes B_t_current t_toldCount u.1 u.2.1 u.2.2 t_current_n t_current_cells)) [0, 1, 2, 3, 4, 5] [] [0, 1, 2, 3, 4, 5] rfl rfl rfl rfl (by decide) (fun _ => rfl) rfl 0 9 rfl rfl rfl rfl hl.1 rfl (Nat.le_of_ble_eq_true rfl) dX10_is_23 (fun r23 u H locs h hP hD hS => ?_)
        obtain ⟨t_classes_n_23, t_classes_leader_23, t_classes_numbers_23⟩ := u
        try dsimp only at h
        have hP : va_P G vwCl (w_X10_is Y h_t B_t B_t_classes B_t_current t_toldCount t_classes_n_23 t_classes_leader_23 t_classes_numbers_23 t_current_n t_current_cells) H := hP
        have hD : va_D A (w_X10_is Y h_t B_t B_t_classes B_t_current t_toldCount t_classes_n_23 t_classes_leader_23 t_classes_numbers_23 t_current_n t_current_cells) := hD
        obtain ⟨ht, hf⟩ := h
        refine lv_if_eq (tgt := 33) hx hb dX10_is_26 (by decide) (fun c9 => ?_) (fun c9 => ?_)
        · have h := ht c9
          refine lv_iconst (v := 0) hx hb dX10_is_33 (by decide) ?_
          exact hret (0 : Int32) t_classes_n_23 t_classes_leader_23 t_classes_numbers_23 H locs ls _ hP hD hS h dX10_is_34
        · have h := hf c9
          refine lv_iconst (v := 1) hx hb dX10_is_29 (by decide) ?_
          refine lv_goto (tgt := 34) hx hb dX10_is_30 (by decide) ?_
          exact hret (1 : Int32) t_classes_n_23 t_classes_leader_23 t_classes_numbers_23 H locs ls _ hP hD hS h dX10_is_34
      · have h := hf c9
        refine lv_iconst (v := -1) hx hb dX10_is_19 (by decide) ?_
        exact hret (-1 : Int32) t_classes_n t_classes_leader t_classes_numbers H locs ls _ hP hD hS h dX10_is_20

set_option maxHeartbeats 4000000 in
set_option maxRecDepth 100000 in
theorem c_X10_is (l : Launch) (G : va_G) (Y : Nat → ClassId) (tF sz : Nat) (h_t : Nat) (B_t : Nat → Nat) (B_t_classes : Nat → Nat) (B_t_current : Nat → Nat) (t_toldCount : Int32) (t_classes_n : Int32) (t_classes_leader : Nat → Int32) (t_classes_numbers : Nat → Int32) (t_current_n : Int32) (t_current_cells : Nat → Int32) (x1 : Int32) {K : Int32 → Int32 → (Nat → Int32) → (Nat → Int32) → Prop} (h : pX10_is t_classes_n t_classes_leader t_classes_numbers t_current_n t_current_cells x1 K) : Met l yX10_is wsX10_is ({ frames := 4, cells := 0, slots := 0, locals := 92 }) (PcM G Y tF sz (w_X10_is Y h_t B_t B_t_classes B_t_current t_toldCount t_classes_n t_classes_leader t_classes_numbers t_current_n t_current_cells) [.ref h_t, .int x1]) (va_Qi (fun (r : Int32) (u : Int32 × (Nat → Int32) × (Nat → Int32)) => K r u.1 u.2.1 u.2.2) (fun u t => BM G Y (va_A (w_X10_is Y h_t B_t B_t_classes B_t_current t_toldCount t_classes_n t_classes_leader t_classes_numbers t_current_n t_current_cells) sz) (w_X10_is Y h_t B_t B_t_classes B_t_current t_toldCount u.1 u.2.1 u.2.2 t_current_n t_current_cells) t) (va_A (w_X10_is Y h_t B_t B_t_classes B_t_current t_toldCount t_classes_n t_classes_leader t_classes_numbers t_current_n t_current_cells) sz)) 0 0 (va_A (w_X10_is Y h_t B_t B_t_classes B_t_current t_toldCount t_classes_n t_classes_leader t_classes_numbers t_current_n t_current_cells) sz) := by
  refine Met.ofW (cc := cX10_is) (maxL := 2) (ret := (some .int)) (by decide +kernel) rfl ?_
  intro p e s m args below meth c s₁ B hml hv
  obtain ⟨rfl, hsz, hP, hK, hD0, hE⟩ := hv
  have hts := atoms_spec (ws := wsX10_is) B.pre
  have hown : s.vm.findClass RX10 = some m.cls := findClass_of_methodNamed B.named
  have hlocks := B.notSynchronized
  subst hsz
  have hD := hD0.self (sz := s.heap.size)
  exact wk_X10_is h_t B_t B_t_classes B_t_current t_toldCount t_classes_n t_classes_leader t_classes_numbers t_current_n t_current_cells x1 B.exec B.bytes hml hown hts hK hE (fun q h => Or.inr h) (Nat.le_refl _) (Nat.le_refl _) (fun r t_classes_n t_classes_leader t_classes_numbers H locs ls pc hP hD hS hk hd => W.iret (v := r) B.exec B.bytes B.returns (fun t ht hW => ⟨⟨r, (t_classes_n, t_classes_leader, t_classes_numbers), rfl, hk, by rw [ht]; exact hP, va_K.moved hW.alike hK, hD⟩, hS.F ht⟩) hS.2.2 hd) hP hD h

abbrev w_X10_orbits (Y : Nat → ClassId) (h_t : Nat) (B_t : Nat → Nat) (B_t_classes : Nat → Nat) (B_t_current : Nat → Nat) (t_toldCount : Int32) (t_classes_n : Int32) (t_classes_leader : Nat → Int32) (t_classes_numbers : Nat → Int32) (t_current_n : Int32) (t_current_cells : Nat → Int32) (t_told : Nat → Int32) : va_W := [(h_t, .inr (9, [.ref (B_t 0), .ref (B_t 1), .ref (B_t 2), .ref (B_t 3), .ref (B_t 4), .ref (B_t 5), .ref (B_t 6), .ref (B_t 7), .ref (B_t 8), .ref (B_t 9), .ref (B_t 10), .ref (B_t 11), .ref (B_t 12), .ref (B_t 13), .int t_toldCount])), ((B_t 6), .inr (1, [.ref (B_t_classes 0), .ref (B_t_classes 1), .int t_classes_n])), ((B_t_classes 0), .inl (Y 0, 8, .inl t_classes_leader)), ((B_t_classes 1), .inl (Y 0, 8, .inl t_classes_numbers)), ((B_t 0), .inr (6, [.ref (B_t_current 0), .int t_current_n])), ((B_t_current 0), .inl (Y 0, 64, .inl t_current_cells)), ((B_t 13), .inl (Y 0, 8, .inl t_told))]

set_option maxHeartbeats 4000000 in
set_option maxRecDepth 100000 in
theorem wk_X10_orbits {p : Program} {l : Launch} {e : Env} {R : Room} {s : State} {m : MethodId} {args : Array Value} {below : List Frame} {meth : Method} {c : Code} {Q : State → Prop} {G : va_G} {Y : Nat → ClassId} {tF : Nat} {A : Nat → Prop} (h_t : Nat) (B_t : Nat → Nat) (B_t_classes : Nat → Nat) (B_t_current : Nat → Nat) (t_toldCount : Int32) (t_classes_n : Int32) (t_classes_leader : Nat → Int32) (t_classes_numbers : Nat → Int32) (t_current_n : Int32) (t_current_cells : Nat → Int32) (t_told : Nat → Int32) {K : Int32 → Int32 → Int32 → (Nat → Int32) → (Nat → Int32) → (Nat → Int32) → Prop} (hx : p.tables.exec = Jvm.exec) (hb : c.code = cX10_orbits) (hml : c.maxLocals = 3) (hown : s.vm.findClass RX10 = some m.cls) (hts : ∀ w ∈ wsX10_orbits, w.before args s = true) (hK : va_K G vwCl (tyL Y) s) (hE : Ev A tF s) (hA : ∀ q, s.heap.size ≤ q → A q) (hRf : 3 ≤ R.frames) (hRl : 71 ≤ R.locals) (hret : ∀ (r : Int32) (t_toldCount : Int32) (t_classes_n : Int32) (t_classes_leader : Nat → Int32) (t_classes_numbers : Nat → Int32) (t_told : Nat → Int32) (H : Heap) (locs : List Loc) (ls : Array Slot) (pc : Nat), va_P G vwCl (w_X10_orbits Y h_t B_t B_t_classes B_t_current t_toldCount t_classes_n t_classes_leader t_classes_numbers t_current_n t_current_cells t_told) H → va_D A (w_X10_orbits Y h_t B_t B_t_classes B_t_current t_toldCount t_classes_n t_classes_leader t_classes_numbers t_current_n t_current_cells t_told) → va_S A s.heap H locs → K r t_toldCount t_classes_n t_classes_leader t_classes_numbers t_told → decode cX10_orbits pc = .ok (.ireturn, 1) → W p l e R s m args below meth c H locs 0 0 Q (F0 m pc ls [.int r])) (hP : va_P G vwCl (w_X10_orbits Y h_t B_t B_t_classes B_t_current t_toldCount t_classes_n t_classes_leader t_classes_numbers t_current_n t_current_cells t_told) s.heap) (hD : va_D A (w_X10_orbits Y h_t B_t B_t_classes B_t_current t_toldCount t_classes_n t_classes_leader t_classes_numbers t_current_n t_current_cells t_told)) (h : pX10_orbits t_toldCount t_classes_n t_classes_leader t_classes_numbers t_current_n t_current_cells t_told K) : W p l e R s m args below meth c s.heap [] 0 0 Q (entryFrame m ([.ref h_t] : List Value).toArray 3) := by
  have inX10 : ∀ w ∈ u_ws RX10 TX10 15, w ∈ wsX10_orbits := by decide +kernel
  have inX7 : ∀ w ∈ u_ws RX7 TX7 2, w ∈ wsX10_orbits := by decide +kernel
  have hf14 := hts (.fieldLink RX10 14 "RackBench" "current" "LRackBench$Table;") (by decide +kernel)
  have hf45 := hts (.fieldLink RX10 45 "RackBench" "classes" "LRackBench$Classes;") (by decide +kernel)
  have hf91 := hts (.fieldLink RX10 91 "RackBench" "toldCount" "I") (by decide +kernel)
  have hl := lv_entry ([.ref h_t]) (n := 3) (Nat.le_of_ble_eq_true rfl)
  rw [lg_entry_eq]
  generalize (lg_sl ([.ref h_t]) ++ List.replicate (3 - (lg_sl ([.ref h_t])).length) Slot.unset).toArray = ls at hl ⊢
  have hl : lv_has ls 3 [(0, .ref h_t)] := hl
  generalize hH0 : s.heap = H at hP ⊢
  have hS : va_S A s.heap H [] := by rw [← hH0]; exact va_S.rf
  clear hH0
  generalize ([] : List Loc) = locs at hS ⊢
  refine lv_aload_n hx hb dX10_orbits_0 rfl (lv_at hl 0 rfl) ?_
  refine va_get (D := G) (ci := 9) (v := .ref (B_t 0)) (C := RX10) (T := TX10) (N := 15) hx hb hts inX10 hown hK hP 0 rfl rfl 0 (by decide) hf14 (fun _ h9 => h9) rfl dX10_orbits_1 ?_
  refine mc_iV ⟨hx, hb, hml, hown, hts⟩ hK hE hA hP hD hS (c_X7_isRack l G Y tF H.size (B_t 0) B_t_current t_current_n t_current_cells h) (cwV 0 hts gX10_orbits_X7_isRack rfl rfl rfl (by decide +kernel) ⟨Nat.le_trans (by decide) hRf, Nat.le_trans (by decide) hRl⟩) (fun u => (w_X10_orbits Y h_t B_t B_t_classes B_t_current t_toldCount t_classes_n t_classes_leader t_classes_numbers t_current_n t_current_cells t_told)) [4, 5] [0, 1, 2, 3, 6] [0, 1, 2, 3, 5, 6, 4] rfl rfl rfl rfl (by decide) (fun _ => rfl) rfl 4 6 rfl rfl rfl rfl hl.1 rfl (Nat.le_of_ble_eq_true rfl) dX10_orbits_4 (fun r4 u H locs h hP hD hS => ?_)
  try dsimp only at h
  have hP : va_P G vwCl (w_X10_orbits Y h_t B_t B_t_classes B_t_current t_toldCount t_classes_n t_classes_leader t_classes_numbers t_current_n t_current_cells t_told) H := hP
  have hD : va_D A (w_X10_orbits Y h_t B_t B_t_classes B_t_current t_toldCount t_classes_n t_classes_leader t_classes_numbers t_current_n t_current_cells t_told) := hD
  obtain ⟨ht, hf⟩ := h
  refine lv_if_ne (tgt := 12) hx hb dX10_orbits_7 (by decide) (fun c9 => ?_) (fun c9 => ?_)
  · have h := ht c9
    refine lv_aload_n hx hb dX10_orbits_12 rfl (lv_at hl 0 rfl) ?_
    refine mc_iV ⟨hx, hb, hml, hown, hts⟩ hK hE hA hP hD hS (c_X10_splitIntoOrbits l G Y tF H.size h_t B_t B_t_classes B_t_current t_toldCount t_classes_n t_classes_leader t_classes_numbers t_current_n t_current_cells h) (cwV 0 hts gX10_orbits_X10_splitIntoOrbits rfl rfl rfl (by decide +kernel) ⟨Nat.le_trans (by decide) hRf, Nat.le_trans (by decide) hRl⟩) (fun u => (w_X10_orbits Y h_t B_t B_t_classes B_t_current t_toldCount u.1 u.2.1 u.2.2 t_current_n t_current_cells t_told)) [0, 1, 2, 3, 4, 5] [6] [1, 2, 3, 4, 5, 6, 0] rfl rfl rfl rfl (by decide) (fun _ => rfl) rfl 0 9 rfl rfl rfl rfl hl.1 rfl (Nat.le_of_ble_eq_true rfl) dX10_orbits_13 (fun r13 u H locs h hP hD hS => ?_)
    obtain ⟨t_classes_n_13, t_classes_leader_13, t_classes_numbers_13⟩ := u
    try dsimp only at h
    have hP : va_P G vwCl (w_X10_orbits Y h_t B_t B_t_classes B_t_current t_toldCount t_classes_n_13 t_classes_leader_13 t_classes_numbers_13 t_current_n t_current_cells t_told) H := hP
    have hD : va_D A (w_X10_orbits Y h_t B_t B_t_classes B_t_current t_toldCount t_classes_n_13 t_classes_leader_13 t_classes_numbers_13 t_current_n t_current_cells t_told) := hD
    refine lv_istore_n (lv' := [(1, .int r13), (0, .ref h_t)]) hx hb dX10_orbits_16 rfl hl (by decide) rfl (fun ls hl => ?_)
    refine lv_aload_n hx hb dX10_orbits_17 rfl (lv_at hl 1 rfl) ?_
    refine lv_iconst (v := 0) hx hb dX10_orbits_18 (by decide) ?_
    refine va_put (D := G) (ci := 9) (v := .int (0 : Int32)) (ty := .int) (C := RX10) (T := TX10) (N := 15) hx hb hts inX10 tyX10 tyX10_ok nmX10 hown hK hP hD hS 0 rfl rfl 14 (by decide) hf91 (fun _ h9 => h9) rfl (by decide +kernel) rfl rfl (Nat.le_of_ble_eq_true rfl) dX10_orbits_19 (fun H locs hP hD hS => ?_)
    have hP : va_P G vwCl (w_X10_orbits Y h_t B_t B_t_classes B_t_current (0 : Int32) t_classes_n_13 t_classes_leader_13 t_classes_numbers_13 t_current_n t_current_cells t_told) H := hP
    have hD : va_D A (w_X10_orbits Y h_t B_t B_t_classes B_t_current (0 : Int32) t_classes_n_13 t_classes_leader_13 t_classes_numbers_13 t_current_n t_current_cells t_told) := hD
    refine lv_iconst (v := 0) hx hb dX10_orbits_22 (by decide) ?_
    refine lv_istore_n (lv' := [(2, .int (0 : Int32)), (1, .int r13), (0, .ref h_t)]) hx hb dX10_orbits_23 rfl hl (by decide) rfl (fun ls hl => ?_)
    obtain ⟨I24, m24, hI24, hB24⟩ := h
    have L24 : ∀ (x1 : Int32) (t_classes_n : Int32) (t_classes_leader : Nat → Int32) (t_classes_numbers : Nat → Int32) (I24 : Int32 → Int32 → (Nat → Int32) → Prop) (m24 : Int32 → Int32 → (Nat → Int32) → Nat), (∀ (x2 : Int32) (t_toldCount : Int32) (t_told : Nat → Int32), I24 x2 t_toldCount t_told → pX10_orbits_24 t_current_n t_current_cells K x1 t_classes_n t_classes_leader t_classes_numbers x2 t_toldCount t_told (fun x2' t_toldCount' t_told' => I24 x2' t_toldCount' t_told' ∧ m24 x2' t_toldCount' t_told' < m24 x2 t_toldCount t_told)) → ∀ (n : Nat) (x2 : Int32) (t_toldCount : Int32) (t_told : Nat → Int32) (H : Heap) (locs : List Loc) (ls : Array Slot), I24 x2 t_toldCount t_told → m24 x2 t_toldCount t_told < n → va_P G vwCl (w_X10_orbits Y h_t B_t B_t_classes B_t_current t_toldCount t_classes_n t_classes_leader t_classes_numbers t_current_n t_current_cells t_told) H → va_D A (w_X10_orbits Y h_t B_t B_t_classes B_t_current t_toldCount t_classes_n t_classes_leader t_classes_numbers t_current_n t_current_cells t_told) → va_S A s.heap H locs → lv_has ls 3 [(0, .ref h_t), (1, .int x1), (2, .int x2)] → W p l e R s m args below meth c H locs 0 0 Q (F0 m 24 ls []) := by
      intro x1 t_classes_n t_classes_leader t_classes_numbers I24 m24 hB24 n
      induction n with
      | zero => intro x2 t_toldCount t_told H locs ls _ hm; exact absurd hm (Nat.not_lt_zero _)
      | succ n ih =>
        intro x2 t_toldCount t_told H locs ls hI hm hP hD hS hl
        obtain ⟨R24, h, rec24⟩ : ∃ R24 : Int32 → Int32 → (Nat → Int32) → Prop, pX10_orbits_24 t_current_n t_current_cells K x1 t_classes_n t_classes_leader t_classes_numbers x2 t_toldCount t_told R24 ∧ ∀ (x2 : Int32) (t_toldCount : Int32) (t_told : Nat → Int32) (H : Heap) (locs : List Loc) (ls : Array Slot), R24 x2 t_toldCount t_told → va_P G vwCl (w_X10_orbits Y h_t B_t B_t_classes B_t_current t_toldCount t_classes_n t_classes_leader t_classes_numbers t_current_n t_current_cells t_told) H → va_D A (w_X10_orbits Y h_t B_t B_t_classes B_t_current t_toldCount t_classes_n t_classes_leader t_classes_numbers t_current_n t_current_cells t_told) → va_S A s.heap H locs → lv_has ls 3 [(0, .ref h_t), (1, .int x1), (2, .int x2)] → W p l e R s m args below meth c H locs 0 0 Q (F0 m 24 ls []) := ⟨_, hB24 x2 t_toldCount t_told hI, fun x2 t_toldCount t_told H locs ls hh hP hD hS hl => ih x2 t_toldCount t_told H locs ls hh.1 (Nat.lt_of_lt_of_le hh.2 (Nat.le_of_lt_succ hm)) hP hD hS hl⟩
        refine lv_iload_n hx hb dX10_orbits_24 rfl (lv_at hl 2 rfl) ?_
        refine lv_aload_n hx hb dX10_orbits_25 rfl (lv_at hl 0 rfl) ?_
        refine va_get (D := G) (ci := 9) (v := .ref (B_t 0)) (C := RX10) (T := TX10) (N := 15) hx hb hts inX10 hown hK hP 0 rfl rfl 0 (by decide) hf14 (fun _ h9 => h9) rfl dX10_orbits_26 ?_
        refine va_getN (D := G) (ci := 6) (v := .int t_current_n) (C := RX7) (T := TX7) (N := 2) hx hb hts inX7 hown hK hP 4 rfl rfl 1 (by decide) (hE.nest args 0 _ rfl) (fun _ h9 => h9) rfl dX10_orbits_29 ?_
        obtain ⟨ht, hf⟩ := h
        refine lv_icmp_ge (tgt := 53) hx hb dX10_orbits_32 (by decide) (fun c9 => ?_) (fun c9 => ?_)
        · have h := ht c9
          refine lv_iload_n hx hb dX10_orbits_53 rfl (lv_at hl 1 rfl) ?_
          exact hret x1 t_toldCount t_classes_n t_classes_leader t_classes_numbers t_told H locs ls _ hP hD hS h dX10_orbits_54
        · have h := hf c9
          refine lv_aload_n hx hb dX10_orbits_35 rfl (lv_at hl 0 rfl) ?_
          refine lv_aload_n hx hb dX10_orbits_36 rfl (lv_at hl 0 rfl) ?_
          refine va_get (D := G) (ci := 9) (v := .ref (B_t 6)) (C := RX10) (T := TX10) (N := 15) hx hb hts inX10 hown hK hP 0 rfl rfl 6 (by decide) hf45 (fun _ h9 => h9) rfl dX10_orbits_37 ?_
          refine lv_iload_n hx hb dX10_orbits_40 rfl (lv_at hl 2 rfl) ?_
          refine mc_iV ⟨hx, hb, hml, hown, hts⟩ hK hE hA hP hD hS (c_X1_numberOf l G Y tF H.size (B_t 6) B_t_classes t_classes_n t_classes_numbers x2 h) (cwV 1 hts gX10_orbits_X1_numberOf rfl rfl rfl (by decide +kernel) ⟨Nat.le_trans (by decide) hRf, Nat.le_trans (by decide) hRl⟩) (fun u => (w_X10_orbits Y h_t B_t B_t_classes B_t_current t_toldCount t_classes_n t_classes_leader t_classes_numbers t_current_n t_current_cells t_told)) [1, 3] [0, 2, 4, 5, 6] [0, 5, 1, 6, 2, 3, 4] rfl rfl rfl rfl (by decide) (fun _ => rfl) rfl 1 1 rfl rfl rfl rfl hl.1 rfl (Nat.le_of_ble_eq_true rfl) dX10_orbits_41 (fun r41 u H locs h hP hD hS => ?_)
          try dsimp only at h
          have hP : va_P G vwCl (w_X10_orbits Y h_t B_t B_t_classes B_t_current t_toldCount t_classes_n t_classes_leader t_classes_numbers t_current_n t_current_cells t_told) H := hP
          have hD : va_D A (w_X10_orbits Y h_t B_t B_t_classes B_t_current t_toldCount t_classes_n t_classes_leader t_classes_numbers t_current_n t_current_cells t_told) := hD
          refine mc_vV ⟨hx, hb, hml, hown, hts⟩ hK hE hA hP hD hS (c_X10_tell l G Y tF H.size h_t B_t t_toldCount t_told r41 h) (cwV 1 hts gX10_orbits_X10_tell rfl rfl rfl (by decide +kernel) ⟨Nat.le_trans (by decide) hRf, Nat.le_trans (by decide) hRl⟩) (fun u => (w_X10_orbits Y h_t B_t B_t_classes B_t_current u.1 t_classes_n t_classes_leader t_classes_numbers t_current_n t_current_cells u.2)) [0, 6] [1, 2, 3, 4, 5] [5, 0, 1, 2, 3, 4, 6] rfl rfl rfl rfl (by decide) (fun _ => rfl) rfl 0 9 rfl rfl rfl rfl hl.1 rfl (Nat.le_of_ble_eq_true rfl) dX10_orbits_44 (fun u H locs h hP hD hS => ?_)
          obtain ⟨t_toldCount_44, t_told_44⟩ := u
          try dsimp only at h
          have hP : va_P G vwCl (w_X10_orbits Y h_t B_t B_t_classes B_t_current t_toldCount_44 t_classes_n t_classes_leader t_classes_numbers t_current_n t_current_cells t_told_44) H := hP
          have hD : va_D A (w_X10_orbits Y h_t B_t B_t_classes B_t_current t_toldCount_44 t_classes_n t_classes_leader t_classes_numbers t_current_n t_current_cells t_told_44) := hD
          refine lv_iinc (v := (x2 + 1)) (lv' := [(2, .int (x2 + 1)), (0, .ref h_t), (1, .int x1)]) hx hb dX10_orbits_47 hl (k := 2) rfl rfl (by decide) rfl (fun ls hl => ?_)
          refine lv_goto (tgt := 24) hx hb dX10_orbits_50 (by decide) ?_
          exact rec24 (x2 + 1) t_toldCount_44 t_told_44 H locs ls h hP hD hS (lv_sub hl [1, 2, 0] rfl)
    exact L24 r13 t_classes_n_13 t_classes_leader_13 t_classes_numbers_13 I24 m24 hB24 _ (0 : Int32) (0 : Int32) t_told H locs ls hI24 (Nat.lt_succ_self _) hP hD hS (lv_sub hl [2, 1, 0] rfl)
  · have h := hf c9
    refine lv_iconst (v := -1) hx hb dX10_orbits_10 (by decide) ?_
    exact hret (-1 : Int32) t_toldCount t_classes_n t_classes_leader t_classes_numbers t_told H locs ls _ hP hD hS h dX10_orbits_11

set_option maxHeartbeats 4000000 in
set_option maxRecDepth 100000 in
theorem c_X10_orbits (l : Launch) (G : va_G) (Y : Nat → ClassId) (tF sz : Nat) (h_t : Nat) (B_t : Nat → Nat) (B_t_classes : Nat → Nat) (B_t_current : Nat → Nat) (t_toldCount : Int32) (t_classes_n : Int32) (t_classes_leader : Nat → Int32) (t_classes_numbers : Nat → Int32) (t_current_n : Int32) (t_current_cells : Nat → Int32) (t_told : Nat → Int32) {K : Int32 → Int32 → Int32 → (Nat → Int32) → (Nat → Int32) → (Nat → Int32) → Prop} (h : pX10_orbits t_toldCount t_classes_n t_classes_leader t_classes_numbers t_current_n t_current_cells t_told K) : Met l yX10_orbits wsX10_orbits ({ frames := 3, cells := 0, slots := 0, locals := 71 }) (PcM G Y tF sz (w_X10_orbits Y h_t B_t B_t_classes B_t_current t_toldCount t_classes_n t_classes_leader t_classes_numbers t_current_n t_current_cells t_told) [.ref h_t]) (va_Qi (fun (r : Int32) (u : Int32 × Int32 × (Nat → Int32) × (Nat → Int32) × (Nat → Int32)) => K r u.1 u.2.1 u.2.2.1 u.2.2.2.1 u.2.2.2.2) (fun u t => BM G Y (va_A (w_X10_orbits Y h_t B_t B_t_classes B_t_current t_toldCount t_classes_n t_classes_leader t_classes_numbers t_current_n t_current_cells t_told) sz) (w_X10_orbits Y h_t B_t B_t_classes B_t_current u.1 u.2.1 u.2.2.1 u.2.2.2.1 t_current_n t_current_cells u.2.2.2.2) t) (va_A (w_X10_orbits Y h_t B_t B_t_classes B_t_current t_toldCount t_classes_n t_classes_leader t_classes_numbers t_current_n t_current_cells t_told) sz)) 0 0 (va_A (w_X10_orbits Y h_t B_t B_t_classes B_t_current t_toldCount t_classes_n t_classes_leader t_classes_numbers t_current_n t_current_cells t_told) sz) := by
  refine Met.ofW (cc := cX10_orbits) (maxL := 3) (ret := (some .int)) (by decide +kernel) rfl ?_
  intro p e s m args below meth c s₁ B hml hv
  obtain ⟨rfl, hsz, hP, hK, hD0, hE⟩ := hv
  have hts := atoms_spec (ws := wsX10_orbits) B.pre
  have hown : s.vm.findClass RX10 = some m.cls := findClass_of_methodNamed B.named
  have hlocks := B.notSynchronized
  subst hsz
  have hD := hD0.self (sz := s.heap.size)
  exact wk_X10_orbits h_t B_t B_t_classes B_t_current t_toldCount t_classes_n t_classes_leader t_classes_numbers t_current_n t_current_cells t_told B.exec B.bytes hml hown hts hK hE (fun q h => Or.inr h) (Nat.le_refl _) (Nat.le_refl _) (fun r t_toldCount t_classes_n t_classes_leader t_classes_numbers t_told H locs ls pc hP hD hS hk hd => W.iret (v := r) B.exec B.bytes B.returns (fun t ht hW => ⟨⟨r, (t_toldCount, t_classes_n, t_classes_leader, t_classes_numbers, t_told), rfl, hk, by rw [ht]; exact hP, va_K.moved hW.alike hK, hD⟩, hS.F ht⟩) hS.2.2 hd) hP hD h

abbrev w_X10_moves (Y : Nat → ClassId) (h_t : Nat) (B_t : Nat → Nat) (B_t_current : Nat → Nat) (B_t_turnGroup : Nat → Nat) (t_toldCount : Int32) (t_current_n : Int32) (t_current_cells : Nat → Int32) (t_turnGroup_carriers : Nat → Int32) (t_turnGroup_reached : Nat → Int32) (t_turnGroup_sieve : Nat → Int32) : va_W := [(h_t, .inr (9, [.ref (B_t 0), .ref (B_t 1), .ref (B_t 2), .ref (B_t 3), .ref (B_t 4), .ref (B_t 5), .ref (B_t 6), .ref (B_t 7), .ref (B_t 8), .ref (B_t 9), .ref (B_t 10), .ref (B_t 11), .ref (B_t 12), .ref (B_t 13), .int t_toldCount])), ((B_t 0), .inr (6, [.ref (B_t_current 0), .int t_current_n])), ((B_t_current 0), .inl (Y 0, 64, .inl t_current_cells)), ((B_t 9), .inr (7, [.ref (B_t_turnGroup 0), .ref (B_t_turnGroup 1), .ref (B_t_turnGroup 2)])), ((B_t_turnGroup 1), .inl (Y 0, 8, .inl t_turnGroup_carriers)), ((B_t_turnGroup 2), .inl (Y 0, 8, .inl t_turnGroup_reached)), ((B_t_turnGroup 0), .inl (Y 0, 64, .inl t_turnGroup_sieve))]

set_option maxHeartbeats 4000000 in
set_option maxRecDepth 100000 in
theorem wk_X10_moves {p : Program} {l : Launch} {e : Env} {R : Room} {s : State} {m : MethodId} {args : Array Value} {below : List Frame} {meth : Method} {c : Code} {Q : State → Prop} {G : va_G} {Y : Nat → ClassId} {tF : Nat} {A : Nat → Prop} (h_t : Nat) (B_t : Nat → Nat) (B_t_current : Nat → Nat) (B_t_turnGroup : Nat → Nat) (t_toldCount : Int32) (t_current_n : Int32) (t_current_cells : Nat → Int32) (t_turnGroup_carriers : Nat → Int32) (t_turnGroup_reached : Nat → Int32) (t_turnGroup_sieve : Nat → Int32) {K : Int32 → (Nat → Int32) → (Nat → Int32) → (Nat → Int32) → Prop} (hx : p.tables.exec = Jvm.exec) (hb : c.code = cX10_moves) (hml : c.maxLocals = 1) (hown : s.vm.findClass RX10 = some m.cls) (hts : ∀ w ∈ wsX10_moves, w.before args s = true) (hK : va_K G vwCl (tyL Y) s) (hE : Ev A tF s) (hA : ∀ q, s.heap.size ≤ q → A q) (hRf : 5 ≤ R.frames) (hRl : 124 ≤ R.locals) (hret : ∀ (r : Int32) (t_turnGroup_carriers : Nat → Int32) (t_turnGroup_reached : Nat → Int32) (t_turnGroup_sieve : Nat → Int32) (H : Heap) (locs : List Loc) (ls : Array Slot) (pc : Nat), va_P G vwCl (w_X10_moves Y h_t B_t B_t_current B_t_turnGroup t_toldCount t_current_n t_current_cells t_turnGroup_carriers t_turnGroup_reached t_turnGroup_sieve) H → va_D A (w_X10_moves Y h_t B_t B_t_current B_t_turnGroup t_toldCount t_current_n t_current_cells t_turnGroup_carriers t_turnGroup_reached t_turnGroup_sieve) → va_S A s.heap H locs → K r t_turnGroup_carriers t_turnGroup_reached t_turnGroup_sieve → decode cX10_moves pc = .ok (.ireturn, 1) → W p l e R s m args below meth c H locs 0 0 Q (F0 m pc ls [.int r])) (hP : va_P G vwCl (w_X10_moves Y h_t B_t B_t_current B_t_turnGroup t_toldCount t_current_n t_current_cells t_turnGroup_carriers t_turnGroup_reached t_turnGroup_sieve) s.heap) (hD : va_D A (w_X10_moves Y h_t B_t B_t_current B_t_turnGroup t_toldCount t_current_n t_current_cells t_turnGroup_carriers t_turnGroup_reached t_turnGroup_sieve)) (h : pX10_moves t_current_n t_current_cells t_turnGroup_carriers t_turnGroup_reached t_turnGroup_sieve K) : W p l e R s m args below meth c s.heap [] 0 0 Q (entryFrame m ([.ref h_t] : List Value).toArray 1) := by
  have inX10 : ∀ w ∈ u_ws RX10 TX10 15, w ∈ wsX10_moves := by decide +kernel
  have hf14 := hts (.fieldLink RX10 14 "RackBench" "current" "LRackBench$Table;") (by decide +kernel)
  have hf66 := hts (.fieldLink RX10 66 "RackBench" "turnGroup" "LRackBench$TurnGroup;") (by decide +kernel)
  have hl := lv_entry ([.ref h_t]) (n := 1) (Nat.le_of_ble_eq_true rfl)
  rw [lg_entry_eq]
  generalize (lg_sl ([.ref h_t]) ++ List.replicate (1 - (lg_sl ([.ref h_t])).length) Slot.unset).toArray = ls at hl ⊢
  have hl : lv_has ls 1 [(0, .ref h_t)] := hl
  generalize hH0 : s.heap = H at hP ⊢
  have hS : va_S A s.heap H [] := by rw [← hH0]; exact va_S.rf
  clear hH0
  generalize ([] : List Loc) = locs at hS ⊢
  refine lv_aload_n hx hb dX10_moves_0 rfl (lv_at hl 0 rfl) ?_
  refine va_get (D := G) (ci := 9) (v := .ref (B_t 0)) (C := RX10) (T := TX10) (N := 15) hx hb hts inX10 hown hK hP 0 rfl rfl 0 (by decide) hf14 (fun _ h9 => h9) rfl dX10_moves_1 ?_
  refine mc_iV ⟨hx, hb, hml, hown, hts⟩ hK hE hA hP hD hS (c_X7_isRack l G Y tF H.size (B_t 0) B_t_current t_current_n t_current_cells h) (cwV 0 hts gX10_moves_X7_isRack rfl rfl rfl (by decide +kernel) ⟨Nat.le_trans (by decide) hRf, Nat.le_trans (by decide) hRl⟩) (fun u => (w_X10_moves Y h_t B_t B_t_current B_t_turnGroup t_toldCount t_current_n t_current_cells t_turnGroup_carriers t_turnGroup_reached t_turnGroup_sieve)) [1, 2] [0, 3, 4, 5, 6] [0, 5, 6, 1, 2, 3, 4] rfl rfl rfl rfl (by decide) (fun _ => rfl) rfl 1 6 rfl rfl rfl rfl hl.1 rfl (Nat.le_of_ble_eq_true rfl) dX10_moves_4 (fun r4 u H locs h hP hD hS => ?_)
  try dsimp only at h
  have hP : va_P G vwCl (w_X10_moves Y h_t B_t B_t_current B_t_turnGroup t_toldCount t_current_n t_current_cells t_turnGroup_carriers t_turnGroup_reached t_turnGroup_sieve) H := hP
  have hD : va_D A (w_X10_moves Y h_t B_t B_t_current B_t_turnGroup t_toldCount t_current_n t_current_cells t_turnGroup_carriers t_turnGroup_reached t_turnGroup_sieve) := hD
  obtain ⟨ht, hf⟩ := h
  refine lv_if_eq (tgt := 24) hx hb dX10_moves_7 (by decide) (fun c9 => ?_) (fun c9 => ?_)
  · have h := ht c9
    refine lv_iconst (v := -1) hx hb dX10_moves_24 (by decide) ?_
    exact hret (-1 : Int32) t_turnGroup_carriers t_turnGroup_reached t_turnGroup_sieve H locs ls _ hP hD hS h dX10_moves_25
  · have h := hf c9
    refine lv_aload_n hx hb dX10_moves_10 rfl (lv_at hl 0 rfl) ?_
    refine va_get (D := G) (ci := 9) (v := .ref (B_t 9)) (C := RX10) (T := TX10) (N := 15) hx hb hts inX10 hown hK hP 0 rfl rfl 9 (by decide) hf66 (fun _ h9 => h9) rfl dX10_moves_11 ?_
    refine lv_aload_n hx hb dX10_moves_14 rfl (lv_at hl 0 rfl) ?_
    refine va_get (D := G) (ci := 9) (v := .ref (B_t 0)) (C := RX10) (T := TX10) (N := 15) hx hb hts inX10 hown hK hP 0 rfl rfl 0 (by decide) hf14 (fun _ h9 => h9) rfl dX10_moves_15 ?_
    refine mc_iV ⟨hx, hb, hml, hown, hts⟩ hK hE hA hP hD hS (c_X8_orderOf l G Y tF H.size (B_t 9) (B_t 0) B_t_turnGroup B_t_current t_turnGroup_carriers t_turnGroup_reached t_turnGroup_sieve t_current_n t_current_cells h) (cwV 1 hts gX10_moves_X8_orderOf rfl rfl rfl (by decide +kernel) ⟨Nat.le_trans (by decide) hRf, Nat.le_trans (by decide) hRl⟩) (fun u => (w_X10_moves Y h_t B_t B_t_current B_t_turnGroup t_toldCount t_current_n t_current_cells u.1 u.2.1 u.2.2)) [3, 4, 5, 6, 1, 2] [0] [0, 5, 6, 1, 2, 3, 4] rfl rfl rfl rfl (by decide) (fun _ => rfl) rfl 3 7 rfl rfl rfl rfl hl.1 rfl (Nat.le_of_ble_eq_true rfl) dX10_moves_18 (fun r18 u H locs h hP hD hS => ?_)
    obtain ⟨t_turnGroup_carriers_18, t_turnGroup_reached_18, t_turnGroup_sieve_18⟩ := u
    try dsimp only at h
    have hP : va_P G vwCl (w_X10_moves Y h_t B_t B_t_current B_t_turnGroup t_toldCount t_current_n t_current_cells t_turnGroup_carriers_18 t_turnGroup_reached_18 t_turnGroup_sieve_18) H := hP
    have hD : va_D A (w_X10_moves Y h_t B_t B_t_current B_t_turnGroup t_toldCount t_current_n t_current_cells t_turnGroup_carriers_18 t_turnGroup_reached_18 t_turnGroup_sieve_18) := hD
    refine lv_goto (tgt := 25) hx hb dX10_moves_21 (by decide) ?_
    exact hret r18 t_turnGroup_carriers_18 t_turnGroup_reached_18 t_turnGroup_sieve_18 H locs ls _ hP hD hS h dX10_moves_25

set_option maxHeartbeats 4000000 in
set_option maxRecDepth 100000 in
theorem c_X10_moves (l : Launch) (G : va_G) (Y : Nat → ClassId) (tF sz : Nat) (h_t : Nat) (B_t : Nat → Nat) (B_t_current : Nat → Nat) (B_t_turnGroup : Nat → Nat) (t_toldCount : Int32) (t_current_n : Int32) (t_current_cells : Nat → Int32) (t_turnGroup_carriers : Nat → Int32) (t_turnGroup_reached : Nat → Int32) (t_turnGroup_sieve : Nat → Int32) {K : Int32 → (Nat → Int32) → (Nat → Int32) → (Nat → Int32) → Prop} (h : pX10_moves t_current_n t_current_cells t_turnGroup_carriers t_turnGroup_reached t_turnGroup_sieve K) : Met l yX10_moves wsX10_moves ({ frames := 5, cells := 0, slots := 0, locals := 124 }) (PcM G Y tF sz (w_X10_moves Y h_t B_t B_t_current B_t_turnGroup t_toldCount t_current_n t_current_cells t_turnGroup_carriers t_turnGroup_reached t_turnGroup_sieve) [.ref h_t]) (va_Qi (fun (r : Int32) (u : (Nat → Int32) × (Nat → Int32) × (Nat → Int32)) => K r u.1 u.2.1 u.2.2) (fun u t => BM G Y (va_A (w_X10_moves Y h_t B_t B_t_current B_t_turnGroup t_toldCount t_current_n t_current_cells t_turnGroup_carriers t_turnGroup_reached t_turnGroup_sieve) sz) (w_X10_moves Y h_t B_t B_t_current B_t_turnGroup t_toldCount t_current_n t_current_cells u.1 u.2.1 u.2.2) t) (va_A (w_X10_moves Y h_t B_t B_t_current B_t_turnGroup t_toldCount t_current_n t_current_cells t_turnGroup_carriers t_turnGroup_reached t_turnGroup_sieve) sz)) 0 0 (va_A (w_X10_moves Y h_t B_t B_t_current B_t_turnGroup t_toldCount t_current_n t_current_cells t_turnGroup_carriers t_turnGroup_reached t_turnGroup_sieve) sz) := by
  refine Met.ofW (cc := cX10_moves) (maxL := 1) (ret := (some .int)) (by decide +kernel) rfl ?_
  intro p e s m args below meth c s₁ B hml hv
  obtain ⟨rfl, hsz, hP, hK, hD0, hE⟩ := hv
  have hts := atoms_spec (ws := wsX10_moves) B.pre
  have hown : s.vm.findClass RX10 = some m.cls := findClass_of_methodNamed B.named
  have hlocks := B.notSynchronized
  subst hsz
  have hD := hD0.self (sz := s.heap.size)
  exact wk_X10_moves h_t B_t B_t_current B_t_turnGroup t_toldCount t_current_n t_current_cells t_turnGroup_carriers t_turnGroup_reached t_turnGroup_sieve B.exec B.bytes hml hown hts hK hE (fun q h => Or.inr h) (Nat.le_refl _) (Nat.le_refl _) (fun r t_turnGroup_carriers t_turnGroup_reached t_turnGroup_sieve H locs ls pc hP hD hS hk hd => W.iret (v := r) B.exec B.bytes B.returns (fun t ht hW => ⟨⟨r, (t_turnGroup_carriers, t_turnGroup_reached, t_turnGroup_sieve), rfl, hk, by rw [ht]; exact hP, va_K.moved hW.alike hK, hD⟩, hS.F ht⟩) hS.2.2 hd) hP hD h

abbrev w_X10_keepers (Y : Nat → ClassId) (h_t : Nat) (B_t : Nat → Nat) (B_t_current : Nat → Nat) (B_t_matcher : Nat → Nat) (t_toldCount : Int32) (t_current_n : Int32) (t_current_cells : Nat → Int32) (t_matcher_used : Int32) (t_matcher_images : Nat → Int32) (t_matcher_signsHere : Nat → Int32) (t_matcher_signsThere : Nat → Int32) : va_W := [(h_t, .inr (9, [.ref (B_t 0), .ref (B_t 1), .ref (B_t 2), .ref (B_t 3), .ref (B_t 4), .ref (B_t 5), .ref (B_t 6), .ref (B_t 7), .ref (B_t 8), .ref (B_t 9), .ref (B_t 10), .ref (B_t 11), .ref (B_t 12), .ref (B_t 13), .int t_toldCount])), ((B_t 0), .inr (6, [.ref (B_t_current 0), .int t_current_n])), ((B_t_current 0), .inl (Y 0, 64, .inl t_current_cells)), ((B_t 7), .inr (3, [.ref (B_t_matcher 0), .ref (B_t_matcher 1), .ref (B_t_matcher 2), .int t_matcher_used])), ((B_t_matcher 2), .inl (Y 0, 8, .inl t_matcher_images)), ((B_t_matcher 0), .inl (Y 0, 8, .inl t_matcher_signsHere)), ((B_t_matcher 1), .inl (Y 0, 8, .inl t_matcher_signsThere))]

set_option maxHeartbeats 4000000 in
set_option maxRecDepth 100000 in
theorem wk_X10_keepers {p : Program} {l : Launch} {e : Env} {R : Room} {s : State} {m : MethodId} {args : Array Value} {below : List Frame} {meth : Method} {c : Code} {Q : State → Prop} {G : va_G} {Y : Nat → ClassId} {tF : Nat} {A : Nat → Prop} (h_t : Nat) (B_t : Nat → Nat) (B_t_current : Nat → Nat) (B_t_matcher : Nat → Nat) (t_toldCount : Int32) (t_current_n : Int32) (t_current_cells : Nat → Int32) (t_matcher_used : Int32) (t_matcher_images : Nat → Int32) (t_matcher_signsHere : Nat → Int32) (t_matcher_signsThere : Nat → Int32) {K : Int32 → Int32 → (Nat → Int32) → (Nat → Int32) → (Nat → Int32) → Prop} (hx : p.tables.exec = Jvm.exec) (hb : c.code = cX10_keepers) (hml : c.maxLocals = 1) (hown : s.vm.findClass RX10 = some m.cls) (hts : ∀ w ∈ wsX10_keepers, w.before args s = true) (hK : va_K G vwCl (tyL Y) s) (hE : Ev A tF s) (hA : ∀ q, s.heap.size ≤ q → A q) (hRf : 25 ≤ R.frames) (hRl : 616 ≤ R.locals) (hret : ∀ (r : Int32) (t_matcher_used : Int32) (t_matcher_images : Nat → Int32) (t_matcher_signsHere : Nat → Int32) (t_matcher_signsThere : Nat → Int32) (H : Heap) (locs : List Loc) (ls : Array Slot) (pc : Nat), va_P G vwCl (w_X10_keepers Y h_t B_t B_t_current B_t_matcher t_toldCount t_current_n t_current_cells t_matcher_used t_matcher_images t_matcher_signsHere t_matcher_signsThere) H → va_D A (w_X10_keepers Y h_t B_t B_t_current B_t_matcher t_toldCount t_current_n t_current_cells t_matcher_used t_matcher_images t_matcher_signsHere t_matcher_signsThere) → va_S A s.heap H locs → K r t_matcher_used t_matcher_images t_matcher_signsHere t_matcher_signsThere → decode cX10_keepers pc = .ok (.ireturn, 1) → W p l e R s m args below meth c H locs 0 0 Q (F0 m pc ls [.int r])) (hP : va_P G vwCl (w_X10_keepers Y h_t B_t B_t_current B_t_matcher t_toldCount t_current_n t_current_cells t_matcher_used t_matcher_images t_matcher_signsHere t_matcher_signsThere) s.heap) (hD : va_D A (w_X10_keepers Y h_t B_t B_t_current B_t_matcher t_toldCount t_current_n t_current_cells t_matcher_used t_matcher_images t_matcher_signsHere t_matcher_signsThere)) (h : pX10_keepers t_current_n t_current_cells t_matcher_used t_matcher_images t_matcher_signsHere t_matcher_signsThere K) : W p l e R s m args below meth c s.heap [] 0 0 Q (entryFrame m ([.ref h_t] : List Value).toArray 1) := by
  have inX10 : ∀ w ∈ u_ws RX10 TX10 15, w ∈ wsX10_keepers := by decide +kernel
  have hf14 := hts (.fieldLink RX10 14 "RackBench" "current" "LRackBench$Table;") (by decide +kernel)
  have hf52 := hts (.fieldLink RX10 52 "RackBench" "matcher" "LRackBench$Matcher;") (by decide +kernel)
  have hl := lv_entry ([.ref h_t]) (n := 1) (Nat.le_of_ble_eq_true rfl)
  rw [lg_entry_eq]
  generalize (lg_sl ([.ref h_t]) ++ List.replicate (1 - (lg_sl ([.ref h_t])).length) Slot.unset).toArray = ls at hl ⊢
  have hl : lv_has ls 1 [(0, .ref h_t)] := hl
  generalize hH0 : s.heap = H at hP ⊢
  have hS : va_S A s.heap H [] := by rw [← hH0]; exact va_S.rf
  clear hH0
  generalize ([] : List Loc) = locs at hS ⊢
  refine lv_aload_n hx hb dX10_keepers_0 rfl (lv_at hl 0 rfl) ?_
  refine va_get (D := G) (ci := 9) (v := .ref (B_t 7)) (C := RX10) (T := TX10) (N := 15) hx hb hts inX10 hown hK hP 0 rfl rfl 7 (by decide) hf52 (fun _ h9 => h9) rfl dX10_keepers_1 ?_
  refine lv_aload_n hx hb dX10_keepers_4 rfl (lv_at hl 0 rfl) ?_
  refine va_get (D := G) (ci := 9) (v := .ref (B_t 0)) (C := RX10) (T := TX10) (N := 15) hx hb hts inX10 hown hK hP 0 rfl rfl 0 (by decide) hf14 (fun _ h9 => h9) rfl dX10_keepers_5 ?_
  refine mc_iV ⟨hx, hb, hml, hown, hts⟩ hK hE hA hP hD hS (c_X3_countKeepers l G Y tF H.size (B_t 7) (B_t 0) B_t_matcher B_t_current t_matcher_used t_matcher_images t_matcher_signsHere t_matcher_signsThere t_current_n t_current_cells h) (cwV 1 hts gX10_keepers_X3_countKeepers rfl rfl rfl (by decide +kernel) ⟨Nat.le_trans (by decide) hRf, Nat.le_trans (by decide) hRl⟩) (fun u => (w_X10_keepers Y h_t B_t B_t_current B_t_matcher t_toldCount t_current_n t_current_cells u.1 u.2.1 u.2.2.1 u.2.2.2)) [3, 4, 5, 6, 1, 2] [0] [0, 5, 6, 1, 2, 3, 4] rfl rfl rfl rfl (by decide) (fun _ => rfl) rfl 3 3 rfl rfl rfl rfl hl.1 rfl (Nat.le_of_ble_eq_true rfl) dX10_keepers_8 (fun r8 u H locs h hP hD hS => ?_)
  obtain ⟨t_matcher_used_8, t_matcher_images_8, t_matcher_signsHere_8, t_matcher_signsThere_8⟩ := u
  try dsimp only at h
  have hP : va_P G vwCl (w_X10_keepers Y h_t B_t B_t_current B_t_matcher t_toldCount t_current_n t_current_cells t_matcher_used_8 t_matcher_images_8 t_matcher_signsHere_8 t_matcher_signsThere_8) H := hP
  have hD : va_D A (w_X10_keepers Y h_t B_t B_t_current B_t_matcher t_toldCount t_current_n t_current_cells t_matcher_used_8 t_matcher_images_8 t_matcher_signsHere_8 t_matcher_signsThere_8) := hD
  exact hret r8 t_matcher_used_8 t_matcher_images_8 t_matcher_signsHere_8 t_matcher_signsThere_8 H locs ls _ hP hD hS h dX10_keepers_11

set_option maxHeartbeats 4000000 in
set_option maxRecDepth 100000 in
theorem c_X10_keepers (l : Launch) (G : va_G) (Y : Nat → ClassId) (tF sz : Nat) (h_t : Nat) (B_t : Nat → Nat) (B_t_current : Nat → Nat) (B_t_matcher : Nat → Nat) (t_toldCount : Int32) (t_current_n : Int32) (t_current_cells : Nat → Int32) (t_matcher_used : Int32) (t_matcher_images : Nat → Int32) (t_matcher_signsHere : Nat → Int32) (t_matcher_signsThere : Nat → Int32) {K : Int32 → Int32 → (Nat → Int32) → (Nat → Int32) → (Nat → Int32) → Prop} (h : pX10_keepers t_current_n t_current_cells t_matcher_used t_matcher_images t_matcher_signsHere t_matcher_signsThere K) : Met l yX10_keepers wsX10_keepers ({ frames := 25, cells := 0, slots := 0, locals := 616 }) (PcM G Y tF sz (w_X10_keepers Y h_t B_t B_t_current B_t_matcher t_toldCount t_current_n t_current_cells t_matcher_used t_matcher_images t_matcher_signsHere t_matcher_signsThere) [.ref h_t]) (va_Qi (fun (r : Int32) (u : Int32 × (Nat → Int32) × (Nat → Int32) × (Nat → Int32)) => K r u.1 u.2.1 u.2.2.1 u.2.2.2) (fun u t => BM G Y (va_A (w_X10_keepers Y h_t B_t B_t_current B_t_matcher t_toldCount t_current_n t_current_cells t_matcher_used t_matcher_images t_matcher_signsHere t_matcher_signsThere) sz) (w_X10_keepers Y h_t B_t B_t_current B_t_matcher t_toldCount t_current_n t_current_cells u.1 u.2.1 u.2.2.1 u.2.2.2) t) (va_A (w_X10_keepers Y h_t B_t B_t_current B_t_matcher t_toldCount t_current_n t_current_cells t_matcher_used t_matcher_images t_matcher_signsHere t_matcher_signsThere) sz)) 0 0 (va_A (w_X10_keepers Y h_t B_t B_t_current B_t_matcher t_toldCount t_current_n t_current_cells t_matcher_used t_matcher_images t_matcher_signsHere t_matcher_signsThere) sz) := by
  refine Met.ofW (cc := cX10_keepers) (maxL := 1) (ret := (some .int)) (by decide +kernel) rfl ?_
  intro p e s m args below meth c s₁ B hml hv
  obtain ⟨rfl, hsz, hP, hK, hD0, hE⟩ := hv
  have hts := atoms_spec (ws := wsX10_keepers) B.pre
  have hown : s.vm.findClass RX10 = some m.cls := findClass_of_methodNamed B.named
  have hlocks := B.notSynchronized
  subst hsz
  have hD := hD0.self (sz := s.heap.size)
  exact wk_X10_keepers h_t B_t B_t_current B_t_matcher t_toldCount t_current_n t_current_cells t_matcher_used t_matcher_images t_matcher_signsHere t_matcher_signsThere B.exec B.bytes hml hown hts hK hE (fun q h => Or.inr h) (Nat.le_refl _) (Nat.le_refl _) (fun r t_matcher_used t_matcher_images t_matcher_signsHere t_matcher_signsThere H locs ls pc hP hD hS hk hd => W.iret (v := r) B.exec B.bytes B.returns (fun t ht hW => ⟨⟨r, (t_matcher_used, t_matcher_images, t_matcher_signsHere, t_matcher_signsThere), rfl, hk, by rw [ht]; exact hP, va_K.moved hW.alike hK, hD⟩, hS.F ht⟩) hS.2.2 hd) hP hD h

abbrev w_X10_least (Y : Nat → ClassId) (h_t : Nat) (B_t : Nat → Nat) (B_t_current : Nat → Nat) (B_t_draft : Nat → Nat) (B_t_namer : Nat → Nat) (B_t_namer_best : Nat → Nat) (B_t_twisting : Nat → Nat) (t_toldCount : Int32) (t_current_n : Int32) (t_current_cells : Nat → Int32) (t_draft_n : Int32) (t_draft_cells : Nat → Int32) (t_namer_named : Int32) (t_namer_best_n : Int32) (t_namer_best_cells : Nat → Int32) (t_namer_firstRow : Nat → Int32) (t_namer_names : Nat → Int32) (t_namer_things : Nat → Int32) (t_namer_twins : Nat → Int32) (t_twisting_modulus : Int32) (t_twisting_values : Nat → Int32) : va_W := [(h_t, .inr (9, [.ref (B_t 0), .ref (B_t 1), .ref (B_t 2), .ref (B_t 3), .ref (B_t 4), .ref (B_t 5), .ref (B_t 6), .ref (B_t 7), .ref (B_t 8), .ref (B_t 9), .ref (B_t 10), .ref (B_t 11), .ref (B_t 12), .ref (B_t 13), .int t_toldCount])), ((B_t 0), .inr (6, [.ref (B_t_current 0), .int t_current_n])), ((B_t_current 0), .inl (Y 0, 64, .inl t_current_cells)), ((B_t 1), .inr (6, [.ref (B_t_draft 0), .int t_draft_n])), ((B_t_draft 0), .inl (Y 0, 64, .inl t_draft_cells)), ((B_t 8), .inr (4, [.ref (B_t_namer 0), .ref (B_t_namer 1), .ref (B_t_namer 2), .ref (B_t_namer 3), .ref (B_t_namer 4), .int t_namer_named])), ((B_t_namer 0), .inr (6, [.ref (B_t_namer_best 0), .int t_namer_best_n])), ((B_t_namer_best 0), .inl (Y 0, 64, .inl t_namer_best_cells)), ((B_t_namer 4), .inl (Y 0, 8, .inl t_namer_firstRow)), ((B_t_namer 2), .inl (Y 0, 8, .inl t_namer_names)), ((B_t_namer 1), .inl (Y 0, 8, .inl t_namer_things)), ((B_t_namer 3), .inl (Y 0, 8, .inl t_namer_twins)), ((B_t 4), .inr (8, [.ref (B_t_twisting 0), .int t_twisting_modulus])), ((B_t_twisting 0), .inl (Y 0, 64, .inl t_twisting_values))]

set_option maxHeartbeats 4000000 in
set_option maxRecDepth 100000 in
theorem wk_X10_least {p : Program} {l : Launch} {e : Env} {R : Room} {s : State} {m : MethodId} {args : Array Value} {below : List Frame} {meth : Method} {c : Code} {Q : State → Prop} {G : va_G} {Y : Nat → ClassId} {tF : Nat} {A : Nat → Prop} (h_t : Nat) (B_t : Nat → Nat) (B_t_current : Nat → Nat) (B_t_draft : Nat → Nat) (B_t_namer : Nat → Nat) (B_t_namer_best : Nat → Nat) (B_t_twisting : Nat → Nat) (t_toldCount : Int32) (t_current_n : Int32) (t_current_cells : Nat → Int32) (t_draft_n : Int32) (t_draft_cells : Nat → Int32) (t_namer_named : Int32) (t_namer_best_n : Int32) (t_namer_best_cells : Nat → Int32) (t_namer_firstRow : Nat → Int32) (t_namer_names : Nat → Int32) (t_namer_things : Nat → Int32) (t_namer_twins : Nat → Int32) (t_twisting_modulus : Int32) (t_twisting_values : Nat → Int32) {K : Int32 → Int32 → (Nat → Int32) → Int32 → (Nat → Int32) → Int32 → Int32 → (Nat → Int32) → (Nat → Int32) → (Nat → Int32) → (Nat → Int32) → (Nat → Int32) → (Nat → Int32) → Prop} (hx : p.tables.exec = Jvm.exec) (hb : c.code = cX10_least) (hml : c.maxLocals = 2) (hown : s.vm.findClass RX10 = some m.cls) (hts : ∀ w ∈ wsX10_least, w.before args s = true) (hK : va_K G vwCl (tyL Y) s) (hE : Ev A tF s) (hA : ∀ q, s.heap.size ≤ q → A q) (hRf : 24 ≤ R.frames) (hRl : 560 ≤ R.locals) (hret : ∀ (r : Int32) (t_current_n : Int32) (t_current_cells : Nat → Int32) (t_draft_n : Int32) (t_draft_cells : Nat → Int32) (t_namer_named : Int32) (t_namer_best_n : Int32) (t_namer_best_cells : Nat → Int32) (t_namer_firstRow : Nat → Int32) (t_namer_names : Nat → Int32) (t_namer_things : Nat → Int32) (t_namer_twins : Nat → Int32) (t_twisting_values : Nat → Int32) (H : Heap) (locs : List Loc) (ls : Array Slot) (pc : Nat), va_P G vwCl (w_X10_least Y h_t B_t B_t_current B_t_draft B_t_namer B_t_namer_best B_t_twisting t_toldCount t_current_n t_current_cells t_draft_n t_draft_cells t_namer_named t_namer_best_n t_namer_best_cells t_namer_firstRow t_namer_names t_namer_things t_namer_twins t_twisting_modulus t_twisting_values) H → va_D A (w_X10_least Y h_t B_t B_t_current B_t_draft B_t_namer B_t_namer_best B_t_twisting t_toldCount t_current_n t_current_cells t_draft_n t_draft_cells t_namer_named t_namer_best_n t_namer_best_cells t_namer_firstRow t_namer_names t_namer_things t_namer_twins t_twisting_modulus t_twisting_values) → va_S A s.heap H locs → zb r → K r t_current_n t_current_cells t_draft_n t_draft_cells t_namer_named t_namer_best_n t_namer_best_cells t_namer_firstRow t_namer_names t_namer_things t_namer_twins t_twisting_values → decode cX10_least pc = .ok (.ireturn, 1) → W p l e R s m args below meth c H locs 0 0 Q (F0 m pc ls [.int r])) (hP : va_P G vwCl (w_X10_least Y h_t B_t B_t_current B_t_draft B_t_namer B_t_namer_best B_t_twisting t_toldCount t_current_n t_current_cells t_draft_n t_draft_cells t_namer_named t_namer_best_n t_namer_best_cells t_namer_firstRow t_namer_names t_namer_things t_namer_twins t_twisting_modulus t_twisting_values) s.heap) (hD : va_D A (w_X10_least Y h_t B_t B_t_current B_t_draft B_t_namer B_t_namer_best B_t_twisting t_toldCount t_current_n t_current_cells t_draft_n t_draft_cells t_namer_named t_namer_best_n t_namer_best_cells t_namer_firstRow t_namer_names t_namer_things t_namer_twins t_twisting_modulus t_twisting_values)) (h : pX10_least t_current_n t_current_cells t_draft_n t_draft_cells t_namer_named t_namer_best_n t_namer_best_cells t_namer_firstRow t_namer_names t_namer_things t_namer_twins t_twisting_values K) : W p l e R s m args below meth c s.heap [] 0 0 Q (entryFrame m ([.ref h_t] : List Value).toArray 2) := by
  have inX10 : ∀ w ∈ u_ws RX10 TX10 15, w ∈ wsX10_least := by decide +kernel
  have inX4 : ∀ w ∈ u_ws RX4 TX4 6, w ∈ wsX10_least := by decide +kernel
  have hf14 := hts (.fieldLink RX10 14 "RackBench" "current" "LRackBench$Table;") (by decide +kernel)
  have hf18 := hts (.fieldLink RX10 18 "RackBench" "draft" "LRackBench$Table;") (by decide +kernel)
  have hf59 := hts (.fieldLink RX10 59 "RackBench" "namer" "LRackBench$Namer;") (by decide +kernel)
  have hl := lv_entry ([.ref h_t]) (n := 2) (Nat.le_of_ble_eq_true rfl)
  rw [lg_entry_eq]
  generalize (lg_sl ([.ref h_t]) ++ List.replicate (2 - (lg_sl ([.ref h_t])).length) Slot.unset).toArray = ls at hl ⊢
  have hl : lv_has ls 2 [(0, .ref h_t)] := hl
  generalize hH0 : s.heap = H at hP ⊢
  have hS : va_S A s.heap H [] := by rw [← hH0]; exact va_S.rf
  clear hH0
  generalize ([] : List Loc) = locs at hS ⊢
  refine lv_aload_n hx hb dX10_least_0 rfl (lv_at hl 0 rfl) ?_
  refine va_get (D := G) (ci := 9) (v := .ref (B_t 8)) (C := RX10) (T := TX10) (N := 15) hx hb hts inX10 hown hK hP 0 rfl rfl 8 (by decide) hf59 (fun _ h9 => h9) rfl dX10_least_1 ?_
  refine lv_aload_n hx hb dX10_least_4 rfl (lv_at hl 0 rfl) ?_
  refine va_get (D := G) (ci := 9) (v := .ref (B_t 0)) (C := RX10) (T := TX10) (N := 15) hx hb hts inX10 hown hK hP 0 rfl rfl 0 (by decide) hf14 (fun _ h9 => h9) rfl dX10_least_5 ?_
  refine mc_iV ⟨hx, hb, hml, hown, hts⟩ hK hE hA hP hD hS (c_X4_lessen l G Y tF H.size (B_t 8) (B_t 0) B_t_namer B_t_namer_best B_t_current t_namer_named t_namer_best_n t_namer_best_cells t_namer_firstRow t_namer_names t_namer_things t_namer_twins t_current_n t_current_cells h) (cwV 1 hts gX10_least_X4_lessen rfl rfl rfl (by decide +kernel) ⟨Nat.le_trans (by decide) hRf, Nat.le_trans (by decide) hRl⟩) (fun u => (w_X10_least Y h_t B_t B_t_current B_t_draft B_t_namer B_t_namer_best B_t_twisting t_toldCount t_current_n t_current_cells t_draft_n t_draft_cells u.1 u.2.1 u.2.2.1 u.2.2.2.1 u.2.2.2.2.1 u.2.2.2.2.2.1 u.2.2.2.2.2.2 t_twisting_modulus t_twisting_values)) [5, 6, 7, 8, 9, 10, 11, 1, 2] [0, 3, 4, 12, 13] [0, 12, 13, 1, 2, 5, 6, 7, 8, 9, 10, 11, 3, 4] rfl rfl rfl rfl (by decide) (fun _ => rfl) rfl 5 4 rfl rfl rfl rfl hl.1 rfl (Nat.le_of_ble_eq_true rfl) dX10_least_8 (fun r8 u H locs h hP hD hS => ?_)
  obtain ⟨t_namer_named_8, t_namer_best_n_8, t_namer_best_cells_8, t_namer_firstRow_8, t_namer_names_8, t_namer_things_8, t_namer_twins_8⟩ := u
  try dsimp only at h
  have hP : va_P G vwCl (w_X10_least Y h_t B_t B_t_current B_t_draft B_t_namer B_t_namer_best B_t_twisting t_toldCount t_current_n t_current_cells t_draft_n t_draft_cells t_namer_named_8 t_namer_best_n_8 t_namer_best_cells_8 t_namer_firstRow_8 t_namer_names_8 t_namer_things_8 t_namer_twins_8 t_twisting_modulus t_twisting_values) H := hP
  have hD : va_D A (w_X10_least Y h_t B_t B_t_current B_t_draft B_t_namer B_t_namer_best B_t_twisting t_toldCount t_current_n t_current_cells t_draft_n t_draft_cells t_namer_named_8 t_namer_best_n_8 t_namer_best_cells_8 t_namer_firstRow_8 t_namer_names_8 t_namer_things_8 t_namer_twins_8 t_twisting_modulus t_twisting_values) := hD
  refine lv_istore_n (lv' := [(1, .int r8), (0, .ref h_t)]) hx hb dX10_least_11 rfl hl (by decide) rfl (fun ls hl => ?_)
  refine lv_aload_n hx hb dX10_least_12 rfl (lv_at hl 1 rfl) ?_
  refine va_get (D := G) (ci := 9) (v := .ref (B_t 1)) (C := RX10) (T := TX10) (N := 15) hx hb hts inX10 hown hK hP 0 rfl rfl 1 (by decide) hf18 (fun _ h9 => h9) rfl dX10_least_13 ?_
  refine lv_aload_n hx hb dX10_least_16 rfl (lv_at hl 1 rfl) ?_
  refine va_get (D := G) (ci := 9) (v := .ref (B_t 8)) (C := RX10) (T := TX10) (N := 15) hx hb hts inX10 hown hK hP 0 rfl rfl 8 (by decide) hf59 (fun _ h9 => h9) rfl dX10_least_17 ?_
  refine va_getN (D := G) (ci := 4) (v := .ref (B_t_namer 0)) (C := RX4) (T := TX4) (N := 6) hx hb hts inX4 hown hK hP 5 rfl rfl 0 (by decide) (hE.nest args 4 _ rfl) (fun _ h9 => h9) rfl dX10_least_20 ?_
  refine mc_vV ⟨hx, hb, hml, hown, hts⟩ hK hE hA hP hD hS (c_X7_copy l G Y tF H.size (B_t 1) (B_t_namer 0) B_t_draft B_t_namer_best t_draft_n t_draft_cells t_namer_best_n_8 t_namer_best_cells_8 h) (cwV 1 hts gX10_least_X7_copy rfl rfl rfl (by decide +kernel) ⟨Nat.le_trans (by decide) hRf, Nat.le_trans (by decide) hRl⟩) (fun u => (w_X10_least Y h_t B_t B_t_current B_t_draft B_t_namer B_t_namer_best B_t_twisting t_toldCount t_current_n t_current_cells u.1 u.2 t_namer_named_8 t_namer_best_n_8 t_namer_best_cells_8 t_namer_firstRow_8 t_namer_names_8 t_namer_things_8 t_namer_twins_8 t_twisting_modulus t_twisting_values)) [3, 4, 6, 7] [0, 1, 2, 5, 8, 9, 10, 11, 12, 13] [0, 1, 2, 10, 11, 3, 12, 13, 4, 5, 6, 7, 8, 9] rfl rfl rfl rfl (by decide) (fun _ => rfl) rfl 3 6 rfl rfl rfl rfl hl.1 rfl (Nat.le_of_ble_eq_true rfl) dX10_least_23 (fun u H locs h hP hD hS => ?_)
  obtain ⟨t_draft_n_23, t_draft_cells_23⟩ := u
  try dsimp only at h
  have hP : va_P G vwCl (w_X10_least Y h_t B_t B_t_current B_t_draft B_t_namer B_t_namer_best B_t_twisting t_toldCount t_current_n t_current_cells t_draft_n_23 t_draft_cells_23 t_namer_named_8 t_namer_best_n_8 t_namer_best_cells_8 t_namer_firstRow_8 t_namer_names_8 t_namer_things_8 t_namer_twins_8 t_twisting_modulus t_twisting_values) H := hP
  have hD : va_D A (w_X10_least Y h_t B_t B_t_current B_t_draft B_t_namer B_t_namer_best B_t_twisting t_toldCount t_current_n t_current_cells t_draft_n_23 t_draft_cells_23 t_namer_named_8 t_namer_best_n_8 t_namer_best_cells_8 t_namer_firstRow_8 t_namer_names_8 t_namer_things_8 t_namer_twins_8 t_twisting_modulus t_twisting_values) := hD
  refine lv_aload_n hx hb dX10_least_26 rfl (lv_at hl 1 rfl) ?_
  refine mc_iV ⟨hx, hb, hml, hown, hts⟩ hK hE hA hP hD hS (c_X10_adoptDraft l G Y tF H.size h_t B_t B_t_current B_t_draft B_t_twisting t_toldCount t_current_n t_current_cells t_draft_n_23 t_draft_cells_23 t_twisting_modulus t_twisting_values h) (cwV 0 hts gX10_least_X10_adoptDraft rfl rfl rfl (by decide +kernel) ⟨Nat.le_trans (by decide) hRf, Nat.le_trans (by decide) hRl⟩) (fun u => (w_X10_least Y h_t B_t B_t_current B_t_draft B_t_namer B_t_namer_best B_t_twisting t_toldCount u.1 u.2.1 t_draft_n_23 t_draft_cells_23 t_namer_named_8 t_namer_best_n_8 t_namer_best_cells_8 t_namer_firstRow_8 t_namer_names_8 t_namer_things_8 t_namer_twins_8 t_twisting_modulus u.2.2)) [0, 1, 2, 3, 4, 12, 13] [5, 6, 7, 8, 9, 10, 11] [7, 8, 9, 10, 11, 0, 1, 2, 3, 4, 5, 6, 12, 13] rfl rfl rfl rfl (by decide) (fun _ => rfl) rfl 0 9 rfl rfl rfl rfl hl.1 rfl (Nat.le_of_ble_eq_true rfl) dX10_least_27 (fun r27 u H locs h hP hD hS => ?_)
  obtain ⟨t_current_n_27, t_current_cells_27, t_twisting_values_27⟩ := u
  try dsimp only at h
  have hP : va_P G vwCl (w_X10_least Y h_t B_t B_t_current B_t_draft B_t_namer B_t_namer_best B_t_twisting t_toldCount t_current_n_27 t_current_cells_27 t_draft_n_23 t_draft_cells_23 t_namer_named_8 t_namer_best_n_8 t_namer_best_cells_8 t_namer_firstRow_8 t_namer_names_8 t_namer_things_8 t_namer_twins_8 t_twisting_modulus t_twisting_values_27) H := hP
  have hD : va_D A (w_X10_least Y h_t B_t B_t_current B_t_draft B_t_namer B_t_namer_best B_t_twisting t_toldCount t_current_n_27 t_current_cells_27 t_draft_n_23 t_draft_cells_23 t_namer_named_8 t_namer_best_n_8 t_namer_best_cells_8 t_namer_firstRow_8 t_namer_names_8 t_namer_things_8 t_namer_twins_8 t_twisting_modulus t_twisting_values_27) := hD
  refine lv_pop hx hb dX10_least_30 rfl ?_
  refine lv_iload_n hx hb dX10_least_31 rfl (lv_at hl 0 rfl) ?_
  obtain ⟨hz, h⟩ := h
  exact hret r8 t_current_n_27 t_current_cells_27 t_draft_n_23 t_draft_cells_23 t_namer_named_8 t_namer_best_n_8 t_namer_best_cells_8 t_namer_firstRow_8 t_namer_names_8 t_namer_things_8 t_namer_twins_8 t_twisting_values_27 H locs ls _ hP hD hS hz h dX10_least_32

set_option maxHeartbeats 4000000 in
set_option maxRecDepth 100000 in
theorem c_X10_least (l : Launch) (G : va_G) (Y : Nat → ClassId) (tF sz : Nat) (h_t : Nat) (B_t : Nat → Nat) (B_t_current : Nat → Nat) (B_t_draft : Nat → Nat) (B_t_namer : Nat → Nat) (B_t_namer_best : Nat → Nat) (B_t_twisting : Nat → Nat) (t_toldCount : Int32) (t_current_n : Int32) (t_current_cells : Nat → Int32) (t_draft_n : Int32) (t_draft_cells : Nat → Int32) (t_namer_named : Int32) (t_namer_best_n : Int32) (t_namer_best_cells : Nat → Int32) (t_namer_firstRow : Nat → Int32) (t_namer_names : Nat → Int32) (t_namer_things : Nat → Int32) (t_namer_twins : Nat → Int32) (t_twisting_modulus : Int32) (t_twisting_values : Nat → Int32) {K : Int32 → Int32 → (Nat → Int32) → Int32 → (Nat → Int32) → Int32 → Int32 → (Nat → Int32) → (Nat → Int32) → (Nat → Int32) → (Nat → Int32) → (Nat → Int32) → (Nat → Int32) → Prop} (h : pX10_least t_current_n t_current_cells t_draft_n t_draft_cells t_namer_named t_namer_best_n t_namer_best_cells t_namer_firstRow t_namer_names t_namer_things t_namer_twins t_twisting_values K) : Met l yX10_least wsX10_least ({ frames := 24, cells := 0, slots := 0, locals := 560 }) (PcM G Y tF sz (w_X10_least Y h_t B_t B_t_current B_t_draft B_t_namer B_t_namer_best B_t_twisting t_toldCount t_current_n t_current_cells t_draft_n t_draft_cells t_namer_named t_namer_best_n t_namer_best_cells t_namer_firstRow t_namer_names t_namer_things t_namer_twins t_twisting_modulus t_twisting_values) [.ref h_t]) (va_Qi (fun (r : Int32) (u : Int32 × (Nat → Int32) × Int32 × (Nat → Int32) × Int32 × Int32 × (Nat → Int32) × (Nat → Int32) × (Nat → Int32) × (Nat → Int32) × (Nat → Int32) × (Nat → Int32)) => K r u.1 u.2.1 u.2.2.1 u.2.2.2.1 u.2.2.2.2.1 u.2.2.2.2.2.1 u.2.2.2.2.2.2.1 u.2.2.2.2.2.2.2.1 u.2.2.2.2.2.2.2.2.1 u.2.2.2.2.2.2.2.2.2.1 u.2.2.2.2.2.2.2.2.2.2.1 u.2.2.2.2.2.2.2.2.2.2.2) (fun u t => BM G Y (va_A (w_X10_least Y h_t B_t B_t_current B_t_draft B_t_namer B_t_namer_best B_t_twisting t_toldCount t_current_n t_current_cells t_draft_n t_draft_cells t_namer_named t_namer_best_n t_namer_best_cells t_namer_firstRow t_namer_names t_namer_things t_namer_twins t_twisting_modulus t_twisting_values) sz) (w_X10_least Y h_t B_t B_t_current B_t_draft B_t_namer B_t_namer_best B_t_twisting t_toldCount u.1 u.2.1 u.2.2.1 u.2.2.2.1 u.2.2.2.2.1 u.2.2.2.2.2.1 u.2.2.2.2.2.2.1 u.2.2.2.2.2.2.2.1 u.2.2.2.2.2.2.2.2.1 u.2.2.2.2.2.2.2.2.2.1 u.2.2.2.2.2.2.2.2.2.2.1 t_twisting_modulus u.2.2.2.2.2.2.2.2.2.2.2) t) (va_A (w_X10_least Y h_t B_t B_t_current B_t_draft B_t_namer B_t_namer_best B_t_twisting t_toldCount t_current_n t_current_cells t_draft_n t_draft_cells t_namer_named t_namer_best_n t_namer_best_cells t_namer_firstRow t_namer_names t_namer_things t_namer_twins t_twisting_modulus t_twisting_values) sz)) 0 0 (va_A (w_X10_least Y h_t B_t B_t_current B_t_draft B_t_namer B_t_namer_best B_t_twisting t_toldCount t_current_n t_current_cells t_draft_n t_draft_cells t_namer_named t_namer_best_n t_namer_best_cells t_namer_firstRow t_namer_names t_namer_things t_namer_twins t_twisting_modulus t_twisting_values) sz) := by
  refine Met.ofW (cc := cX10_least) (maxL := 2) (ret := (some .boolean)) (by decide +kernel) rfl ?_
  intro p e s m args below meth c s₁ B hml hv
  obtain ⟨rfl, hsz, hP, hK, hD0, hE⟩ := hv
  have hts := atoms_spec (ws := wsX10_least) B.pre
  have hown : s.vm.findClass RX10 = some m.cls := findClass_of_methodNamed B.named
  have hlocks := B.notSynchronized
  subst hsz
  have hD := hD0.self (sz := s.heap.size)
  exact wk_X10_least h_t B_t B_t_current B_t_draft B_t_namer B_t_namer_best B_t_twisting t_toldCount t_current_n t_current_cells t_draft_n t_draft_cells t_namer_named t_namer_best_n t_namer_best_cells t_namer_firstRow t_namer_names t_namer_things t_namer_twins t_twisting_modulus t_twisting_values B.exec B.bytes hml hown hts hK hE (fun q h => Or.inr h) (Nat.le_refl _) (Nat.le_refl _) (fun r t_current_n t_current_cells t_draft_n t_draft_cells t_namer_named t_namer_best_n t_namer_best_cells t_namer_firstRow t_namer_names t_namer_things t_namer_twins t_twisting_values H locs ls pc hP hD hS hz hk hd => W.zret (v := r) B.exec B.bytes B.returns hz.n (fun t ht hW => ⟨⟨r, (t_current_n, t_current_cells, t_draft_n, t_draft_cells, t_namer_named, t_namer_best_n, t_namer_best_cells, t_namer_firstRow, t_namer_names, t_namer_things, t_namer_twins, t_twisting_values), rfl, hk, by rw [ht]; exact hP, va_K.moved hW.alike hK, hD⟩, hS.F ht⟩) hS.2.2 hd) hP hD h
