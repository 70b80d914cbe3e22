/-! The law's own two methods: what they catch, and what they put into the row of one long. -/
theorem vp01 : vp_in (0 : Int32) 1 := by unfold vp_in; decide
abbrev w_L_at (Y : Nat → ClassId) (h_t : Nat) (B_t : Nat → Nat) (B_t_current : Nat → Nat) (t_toldCount : Int32) (t_current_n : Int32) (t_current_cells : Nat → Int32) (h_o : Nat) (o : Nat → Int64) : va_W := [(h_t, .inr (9, [.ref (B_t 0), .ref (B_t 1), .ref (B_t 2), .ref (B_t 3), .ref (B_t 4), .ref (B_t 5), .ref (B_t 6), .ref (B_t 7), .ref (B_t 8), .ref (B_t 9), .ref (B_t 10), .ref (B_t 11), .ref (B_t 12), .ref (B_t 13), .int t_toldCount])), ((B_t 0), .inr (6, [.ref (B_t_current 0), .int t_current_n])), ((B_t_current 0), .inl (Y 0, 64, .inl t_current_cells)), (h_o, .inl (Y 4, 1, .inr (.inl o)))]
set_option maxHeartbeats 4000000 in
set_option maxRecDepth 100000 in
theorem c_L_at (l : Launch) (hl0 : l.stackTraces = false) (G : va_G) (Y : Nat → ClassId) (tF sz : Nat) (h_t : Nat) (B_t : Nat → Nat) (B_t_current : Nat → Nat) (t_toldCount : Int32) (t_current_n : Int32) (t_current_cells : Nat → Int32) (h_o : Nat) (o : Nat → Int64) (x1 : Int32) (x2 : Int32) {K : Int32 → (Nat → Int64) → Prop} (h : pX10_at t_current_n t_current_cells x1 x2 (fun r => K 0 (vp_updL o (Int32.toNatClampNeg 0) (Int32.toInt64 r))) (K 1 o)) : Met l yL_at wsYL_at ({ frames := 10, cells := 1, slots := 6, locals := 130 }) (PcX G Y tF sz (w_L_at Y h_t B_t B_t_current t_toldCount t_current_n t_current_cells h_o o) [.ref h_t, .int x1, .int x2, .ref h_o]) (va_Qi (fun (r : Int32) (u : Nat → Int64) => K r u) (fun u t => BM G Y (va_A (w_L_at Y h_t B_t B_t_current t_toldCount t_current_n t_current_cells h_o o) sz) (w_L_at Y h_t B_t B_t_current t_toldCount t_current_n t_current_cells h_o u) t) (va_A (w_L_at Y h_t B_t B_t_current t_toldCount t_current_n t_current_cells h_o o) sz)) 1 6 (va_A (w_L_at Y h_t B_t B_t_current t_toldCount t_current_n t_current_cells h_o o) sz) := by
  refine va_MetW (cc := cL_at) (maxL := 5) (ret := some .int) (hh := [(0, 10, 13, 13)]) (by decide +kernel) rfl ?_
  intro p e s m args below meth c s₁ B hml hv
  obtain ⟨rfl, hsz, hP, hK, hD0, hE⟩ := hv
  have hx := B.exec
  have hb := B.bytes
  have hts := atoms_spec (ws := wsYL_at) B.pre
  have hown : s.vm.findClass RL = some m.cls := findClass_of_methodNamed B.named
  have hlocks := B.notSynchronized
  have htab : c.exceptionTable.toList = tableOf [(0, 10, 13, 13)] := vx_table (x := yL_at) B (hts (.codeWith yL_at cL_at 5 (some .int) [(0, 10, 13, 13)]) List.mem_cons_self)
  subst hsz
  have hD := hD0.self (sz := s.heap.size)
  generalize hAe : va_A (w_L_at Y h_t B_t B_t_current t_toldCount t_current_n t_current_cells h_o o) s.heap.size = A at hD hE ⊢
  have hA : ∀ q : Nat, s.heap.size ≤ q → A q := fun q h => by rw [← hAe]; exact Or.inr h
  have hl := lv_entry ([.ref h_t, .int x1, .int x2, .ref h_o]) (n := 5) (Nat.le_of_ble_eq_true rfl)
  rw [lg_entry_eq]
  generalize (lg_sl ([.ref h_t, .int x1, .int x2, .ref h_o]) ++ List.replicate (5 - (lg_sl ([.ref h_t, .int x1, .int x2, .ref h_o])).length) Slot.unset).toArray = ls at hl ⊢
  have hl : lv_has ls 5 [(0, .ref h_t), (1, .int x1), (2, .int x2), (3, .ref h_o)] := hl
  generalize hH0 : s.heap = H at hP ⊢
  have hS : va_S A s.heap H [] := by rw [← hH0]; exact va_S.rf
  clear hH0
  generalize ([] : List Loc) = locs at hS ⊢
  have hlk := hts (.classLink RL 13 "java/util/NoSuchElementException") (by decide +kernel)
  refine lv_aload_n hx hb dL_at_0 rfl (lv_at hl 3 rfl) ?_
  refine lv_iconst (v := 0) hx hb dL_at_1 (by decide) ?_
  refine lv_aload_n hx hb dL_at_2 rfl (lv_at hl 0 rfl) ?_
  refine lv_iload_n hx hb dL_at_3 rfl (lv_at hl 1 rfl) ?_
  refine lv_iload_n hx hb dL_at_4 rfl (lv_at hl 2 rfl) ?_
  have hp := mx_pre (wc := (w_X10_set Y h_t B_t B_t_current t_toldCount t_current_n t_current_cells)) hK hE hA hP hD hS [0, 1, 2] rfl rfl (.ref h_t :: [.int x1, .int x2])
  have hF := va_free (wc := (w_X10_set Y h_t B_t B_t_current t_toldCount t_current_n t_current_cells)) hD hS hA [0, 1, 2] rfl
  refine vx_calli (vx_runV (As := [.int x1, .int x2]) (rest := [.int 0, .ref h_o]) ⟨hx, hb, hml, hown, hts⟩ (c_X10_at l hl0 G Y tF H.size h_t B_t B_t_current t_toldCount t_current_n t_current_cells x1 x2 h) (cwV 2 hts gL_at_X10_at rfl rfl rfl (by decide +kernel) ⟨Nat.le_of_ble_eq_true rfl, Nat.le_of_ble_eq_true rfl⟩) ⟨hp.1, va_recv hK hP (ci := 9) (q0 := 0) rfl rfl, hp.2⟩ rfl rfl hl.1 rfl (lv_room (Nat.le_of_ble_eq_true rfl)) dL_at_5 ⟨Nat.le_of_ble_eq_true rfl, Nat.le_of_ble_eq_true rfl⟩) hS (fun q _ h => hF q h) hF (fun q _ h => hF q h) (fun E ce q9 u t H1 locs1 ht hvm hpx hBX hz1 hk1 hS1 hcell hcv hcl => ?_) (fun r u t H1 locs1 ht hvm hpo hB hz1 hk1 hS1 => ?_)
  · obtain ⟨rfl, hB⟩ := hBX
    obtain ⟨hP1, hD1⟩ := mc_post (wn := (w_L_at Y h_t B_t B_t_current t_toldCount t_current_n t_current_cells h_o o)) hP hD hS hA [0, 1, 2] [3] [1, 2, 3, 0] rfl rfl rfl (by decide) rfl rfl ht hB hk1
    refine vx_catch (own := RL) (name := "java/util/NoSuchElementException") hown [] ⟨0, 10, 13, 13⟩ [] (by rw [htab]; rfl) (fun z hz => nomatch hz) (by decide) (by decide) hlk (va_Nw.use rfl hE.2.2.2.2.2.2.2.2) hcell hcv hcl ?_
    refine lv_astore (lv' := (4, .ref q9) :: [(0, .ref h_t), (1, .int x1), (2, .int x2), (3, .ref h_o)]) hx hb dL_at_13 hl (by decide) rfl (fun ls hl => ?_)
    refine lv_iconst (v := 1) hx hb dL_at_15 (by decide) ?_
    exact W.iret (v := 1) B.exec B.bytes B.returns (fun t ht hW => ⟨⟨1, o, rfl, hpx, by rw [ht]; exact hP1, va_K.moved hW.alike hK, hD1⟩, hS1.F ht⟩) hS1.2.2 dL_at_16
  · obtain ⟨hP1, hD1⟩ := mc_post (wn := (w_L_at Y h_t B_t B_t_current t_toldCount t_current_n t_current_cells h_o o)) hP hD hS hA [0, 1, 2] [3] [1, 2, 3, 0] rfl rfl rfl (by decide) rfl rfl ht hB hk1
    refine lv_i2l hx hb dL_at_8 rfl ?_
    refine va_last hx hb hK hP1 hD1 hS1 3 4 rfl rfl vp01 dL_at_9 (fun H2 locs2 hP2 hD2 hS2 => ?_)
    have hP2 : va_P G vwCl (w_L_at Y h_t B_t B_t_current t_toldCount t_current_n t_current_cells h_o (vp_updL o (Int32.toNatClampNeg 0) (Int32.toInt64 r))) H2 := hP2
    have hD2 : va_D A (w_L_at Y h_t B_t B_t_current t_toldCount t_current_n t_current_cells h_o (vp_updL o (Int32.toNatClampNeg 0) (Int32.toInt64 r))) := hD2
    refine lv_goto (tgt := 17) hx hb dL_at_10 (by decide) ?_
    refine lv_iconst (v := 0) hx hb dL_at_17 (by decide) ?_
    exact W.iret (v := 0) B.exec B.bytes B.returns (fun t ht hW => ⟨⟨0, _, rfl, hpo, by rw [ht]; exact hP2, va_K.moved hW.alike hK, hD2⟩, hS2.F ht⟩) hS2.2.2 dL_at_18

abbrev w_L_row (Y : Nat → ClassId) (h_t : Nat) (B_t : Nat → Nat) (t_toldCount : Int32) (t_told : Nat → Int32) (h_o : Nat) (o : Nat → Int64) : va_W := [(h_t, .inr (9, [.ref (B_t 0), .ref (B_t 1), .ref (B_t 2), .ref (B_t 3), .ref (B_t 4), .ref (B_t 5), .ref (B_t 6), .ref (B_t 7), .ref (B_t 8), .ref (B_t 9), .ref (B_t 10), .ref (B_t 11), .ref (B_t 12), .ref (B_t 13), .int t_toldCount])), ((B_t 13), .inl (Y 0, 8, .inl t_told)), (h_o, .inl (Y 4, 1, .inr (.inl o)))]
set_option maxHeartbeats 4000000 in
set_option maxRecDepth 100000 in
theorem c_L_row (l : Launch) (hl0 : l.stackTraces = false) (G : va_G) (Y : Nat → ClassId) (tF sz : Nat) (h_t : Nat) (B_t : Nat → Nat) (t_toldCount : Int32) (t_told : Nat → Int32) (h_o : Nat) (o : Nat → Int64) (x1 : Int32) {K : Int32 → (Nat → Int64) → Prop} (h : pX10_row t_toldCount t_told x1 (fun r => K 0 (vp_updL o (Int32.toNatClampNeg 0) (Int32.toInt64 r))) (K 1 o)) : Met l yL_row wsYL_row ({ frames := 10, cells := 1, slots := 6, locals := 130 }) (PcX G Y tF sz (w_L_row Y h_t B_t t_toldCount t_told h_o o) [.ref h_t, .int x1, .ref h_o]) (va_Qi (fun (r : Int32) (u : Nat → Int64) => K r u) (fun u t => BM G Y (va_A (w_L_row Y h_t B_t t_toldCount t_told h_o o) sz) (w_L_row Y h_t B_t t_toldCount t_told h_o u) t) (va_A (w_L_row Y h_t B_t t_toldCount t_told h_o o) sz)) 1 6 (va_A (w_L_row Y h_t B_t t_toldCount t_told h_o o) sz) := by
  refine va_MetW (cc := cL_row) (maxL := 4) (ret := some .int) (hh := [(0, 9, 12, 13)]) (by decide +kernel) rfl ?_
  intro p e s m args below meth c s₁ B hml hv
  obtain ⟨rfl, hsz, hP, hK, hD0, hE⟩ := hv
  have hx := B.exec
  have hb := B.bytes
  have hts := atoms_spec (ws := wsYL_row) B.pre
  have hown : s.vm.findClass RL = some m.cls := findClass_of_methodNamed B.named
  have hlocks := B.notSynchronized
  have htab : c.exceptionTable.toList = tableOf [(0, 9, 12, 13)] := vx_table (x := yL_row) B (hts (.codeWith yL_row cL_row 4 (some .int) [(0, 9, 12, 13)]) List.mem_cons_self)
  subst hsz
  have hD := hD0.self (sz := s.heap.size)
  generalize hAe : va_A (w_L_row Y h_t B_t t_toldCount t_told h_o o) s.heap.size = A at hD hE ⊢
  have hA : ∀ q : Nat, s.heap.size ≤ q → A q := fun q h => by rw [← hAe]; exact Or.inr h
  have hl := lv_entry ([.ref h_t, .int x1, .ref h_o]) (n := 4) (Nat.le_of_ble_eq_true rfl)
  rw [lg_entry_eq]
  generalize (lg_sl ([.ref h_t, .int x1, .ref h_o]) ++ List.replicate (4 - (lg_sl ([.ref h_t, .int x1, .ref h_o])).length) Slot.unset).toArray = ls at hl ⊢
  have hl : lv_has ls 4 [(0, .ref h_t), (1, .int x1), (2, .ref h_o)] := hl
  generalize hH0 : s.heap = H at hP ⊢
  have hS : va_S A s.heap H [] := by rw [← hH0]; exact va_S.rf
  clear hH0
  generalize ([] : List Loc) = locs at hS ⊢
  have hlk := hts (.classLink RL 13 "java/util/NoSuchElementException") (by decide +kernel)
  refine lv_aload_n hx hb dL_row_0 rfl (lv_at hl 2 rfl) ?_
  refine lv_iconst (v := 0) hx hb dL_row_1 (by decide) ?_
  refine lv_aload_n hx hb dL_row_2 rfl (lv_at hl 0 rfl) ?_
  refine lv_iload_n hx hb dL_row_3 rfl (lv_at hl 1 rfl) ?_
  have hp := mx_pre (wc := (w_X10_tell Y h_t B_t t_toldCount t_told)) hK hE hA hP hD hS [0, 1] rfl rfl (.ref h_t :: [.int x1])
  have hF := va_free (wc := (w_X10_tell Y h_t B_t t_toldCount t_told)) hD hS hA [0, 1] rfl
  refine vx_calli (vx_runV (As := [.int x1]) (rest := [.int 0, .ref h_o]) ⟨hx, hb, hml, hown, hts⟩ (c_X10_row l hl0 G Y tF H.size h_t B_t t_toldCount t_told x1 h) (cwV 1 hts gL_row_X10_row rfl rfl rfl (by decide +kernel) ⟨Nat.le_of_ble_eq_true rfl, Nat.le_of_ble_eq_true rfl⟩) ⟨hp.1, va_recv hK hP (ci := 9) (q0 := 0) rfl rfl, hp.2⟩ rfl rfl hl.1 rfl (lv_room (Nat.le_of_ble_eq_true rfl)) dL_row_4 ⟨Nat.le_of_ble_eq_true rfl, Nat.le_of_ble_eq_true rfl⟩) hS (fun q _ h => hF q h) hF (fun q _ h => hF q h) (fun E ce q9 u t H1 locs1 ht hvm hpx hBX hz1 hk1 hS1 hcell hcv hcl => ?_) (fun r u t H1 locs1 ht hvm hpo hB hz1 hk1 hS1 => ?_)
  · obtain ⟨rfl, hB⟩ := hBX
    obtain ⟨hP1, hD1⟩ := mc_post (wn := (w_L_row Y h_t B_t t_toldCount t_told h_o o)) hP hD hS hA [0, 1] [2] [1, 2, 0] rfl rfl rfl (by decide) rfl rfl ht hB hk1
    refine vx_catch (own := RL) (name := "java/util/NoSuchElementException") hown [] ⟨0, 9, 12, 13⟩ [] (by rw [htab]; rfl) (fun z hz => nomatch hz) (by decide) (by decide) hlk (va_Nw.use rfl hE.2.2.2.2.2.2.2.2) hcell hcv hcl ?_
    refine lv_astore_n (lv' := (3, .ref q9) :: [(0, .ref h_t), (1, .int x1), (2, .ref h_o)]) hx hb dL_row_12 rfl hl (by decide) rfl (fun ls hl => ?_)
    refine lv_iconst (v := 1) hx hb dL_row_13 (by decide) ?_
    exact W.iret (v := 1) B.exec B.bytes B.returns (fun t ht hW => ⟨⟨1, o, rfl, hpx, by rw [ht]; exact hP1, va_K.moved hW.alike hK, hD1⟩, hS1.F ht⟩) hS1.2.2 dL_row_14
  · obtain ⟨hP1, hD1⟩ := mc_post (wn := (w_L_row Y h_t B_t t_toldCount t_told h_o o)) hP hD hS hA [0, 1] [2] [1, 2, 0] rfl rfl rfl (by decide) rfl rfl ht hB hk1
    refine lv_i2l hx hb dL_row_7 rfl ?_
    refine va_last hx hb hK hP1 hD1 hS1 2 4 rfl rfl vp01 dL_row_8 (fun H2 locs2 hP2 hD2 hS2 => ?_)
    have hP2 : va_P G vwCl (w_L_row Y h_t B_t t_toldCount t_told h_o (vp_updL o (Int32.toNatClampNeg 0) (Int32.toInt64 r))) H2 := hP2
    have hD2 : va_D A (w_L_row Y h_t B_t t_toldCount t_told h_o (vp_updL o (Int32.toNatClampNeg 0) (Int32.toInt64 r))) := hD2
    refine lv_goto (tgt := 15) hx hb dL_row_9 (by decide) ?_
    refine lv_iconst (v := 0) hx hb dL_row_15 (by decide) ?_
    exact W.iret (v := 0) B.exec B.bytes B.returns (fun t ht hW => ⟨⟨0, _, rfl, hpo, by rw [ht]; exact hP2, va_K.moved hW.alike hK, hD2⟩, hS2.F ht⟩) hS2.2.2 dL_row_16
