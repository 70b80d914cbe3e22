theorem rel_T0 : RelT 1 (fun _ => 0) 1 (fun _ => 0) := ⟨1, fun _ _ => 0, Nat.le_refl _, by decide, rfl, rfl, fun a b _ _ => ⟨rfl, Nat.zero_lt_one⟩, fun a b _ _ => ⟨rfl, Nat.zero_lt_one⟩⟩
theorem rel_W0 : RelW 2 (fun _ => 0) 2 (fun _ => 0) := ⟨2, by decide, by decide, rfl, rfl, fun j _ => ⟨rfl, 0, by decide, rfl⟩⟩
theorem rel_K0 : RelK (fun _ => 0) (fun _ => fun _ => 0) (fun _ => 0) (fun _ => 0) := fun k _ => ⟨0, fun _ _ => 0, by decide, rfl, rfl, fun a b h _ => absurd h (Nat.not_lt_zero _), fun a b h _ => absurd h (Nat.not_lt_zero _)⟩
theorem rel_B0 : RelB 2 0 (fun _ => 0) 2 0 (fun _ => 0) := ⟨2, 0, by decide, by decide, by decide, rfl, rfl, rfl, rfl, fun i h => absurd h (Nat.not_lt_zero _)⟩
theorem rel_R0 : RelR 0 (fun _ => 0) 0 (fun _ => 0) := ⟨0, by decide, rfl, rfl, fun i h => absurd h (Nat.not_lt_zero _)⟩
theorem rel_L0 : RelL (fun _ => fun _ => 0) (fun _ => 0) 0 0 0 (fun _ => 0) := ⟨fun n _ _ => Or.inl rfl, Or.inl rfl⟩
theorem def_X10 (j : Nat) (hj : j < 15) : defaultValue (tyX10 j) = vp_V [.null, .null, .null, .null, .null, .null, .null, .null, .null, .null, .null, .null, .null, .null, .int 0] j := by
  match j, hj with
  | 0, _ => rfl
  | 1, _ => rfl
  | 2, _ => rfl
  | 3, _ => rfl
  | 4, _ => rfl
  | 5, _ => rfl
  | 6, _ => rfl
  | 7, _ => rfl
  | 8, _ => rfl
  | 9, _ => rfl
  | 10, _ => rfl
  | 11, _ => rfl
  | 12, _ => rfl
  | 13, _ => rfl
  | 14, _ => rfl
  | j + 15, h => exact absurd h (by omega)
theorem def_X11 (j : Nat) (hj : j < 29) : defaultValue (tyX11 j) = vp_V [.int 0, .int 0, .null, .int 0, .null, .null, .null, .null, .null, .null, .null, .int 0, .null, .null, .null, .null, .null, .null, .null, .null, .int 0, .int 0, .null, .null, .null, .null, .int 0, .int 0, .int 0] j := by
  match j, hj with
  | 0, _ => rfl
  | 1, _ => rfl
  | 2, _ => rfl
  | 3, _ => rfl
  | 4, _ => rfl
  | 5, _ => rfl
  | 6, _ => rfl
  | 7, _ => rfl
  | 8, _ => rfl
  | 9, _ => rfl
  | 10, _ => rfl
  | 11, _ => rfl
  | 12, _ => rfl
  | 13, _ => rfl
  | 14, _ => rfl
  | 15, _ => rfl
  | 16, _ => rfl
  | 17, _ => rfl
  | 18, _ => rfl
  | 19, _ => rfl
  | 20, _ => rfl
  | 21, _ => rfl
  | 22, _ => rfl
  | 23, _ => rfl
  | 24, _ => rfl
  | 25, _ => rfl
  | 26, _ => rfl
  | 27, _ => rfl
  | 28, _ => rfl
  | j + 29, h => exact absurd h (by omega)
set_option maxHeartbeats 8000000 in
set_option maxRecDepth 100000 in
theorem whole_start {p : Program} {e : Env} {s : State} {m : MethodId} {below : List Frame} {meth : Method} {c : Code} (l : Launch) (hfl : l.stackTraces = false) {b L : Nat} {xs : Nat → Int32} (hL : L ≤ 2048) (C0 : lw_At p s m meth c b L xs) : W p l e room_1 s m #[Value.ref b] below meth c s.heap [] 0 0 (lw_Z below #[Value.ref b] s) (entryFrame m ([Value.ref b] : List Value).toArray 7) := by
  obtain ⟨hx, hb, hr, hml, hown, hts0, hX, hbl, hlocks, hgv⟩ := id C0
  have hg := flat_of_before _ hgv
  obtain ⟨A, eA⟩ : ∃ A : Nat → Prop, A = fun q : Nat => s.heap.size ≤ q := ⟨_, rfl⟩
  have hA : ∀ q : Nat, s.heap.size ≤ q → A q := fun q h => by rw [eA]; exact h
  have hAs : ∀ q : Nat, A q → s.heap.size ≤ q := fun q h => by rw [eA] at h; exact h
  have hAn : ∀ q : Nat, q < s.heap.size → ¬ A q := fun q h z => Nat.not_le.mpr h (hAs q z)
  clear eA
  have hbA : ¬ A b := hAn b hbl
  obtain ⟨G, Y, hK⟩ := st_K hts0
  obtain ⟨tF, hEI, hEX⟩ := st_Ev hts0 hg hAn
  have hts : ∀ w ∈ wsN_law, w.before #[Value.ref b] s = true := fun w h => hts0 w (wsN_law_in w h)
  have hown : s.vm.findClass RL = some m.cls := hown
  have hb : c.code = cL_law := hb
  have F : LFix p l s m #[Value.ref b] c G Y tF A := ⟨⟨hx, hb, hml, hown, hts⟩, hK, hEX, hA, hfl⟩
  have hS : va_S A s.heap s.heap [] := va_S.rf
  have hP : va_P G vwCl [] s.heap := fun k q h => by simp at h
  have hD : va_D A [] := ⟨fun i j p q h => by simp at h, fun k q h => by simp at h⟩
  have hl := lv_entry ([.ref b]) (n := 7) (Nat.le_of_ble_eq_true rfl)
  rw [lg_entry_eq]
  generalize (lg_sl ([.ref b]) ++ List.replicate (7 - (lg_sl ([.ref b])).length) Slot.unset).toArray = ls at hl ⊢
  have hl : lv_has ls 7 [(0, .ref b)] := hl
  refine va_new (ci := 9) (fs := [.null, .null, .null, .null, .null, .null, .null, .null, .null, .null, .null, .null, .null, .null, .int 0]) (C := RX10) (T := TX10) (N := 15) hx hb hts inlX10 tyX10 tyX10_ok hown (hts0 (.classLink RL 8 RX10) (by decide +kernel)) (hts0 (.instantiable RX10 15) (by decide +kernel)) (hts0 (.initialized RX10) (by decide +kernel)) hK hP hD hS hA rfl def_X10 (Nat.le_of_ble_eq_true rfl) (Nat.le_of_ble_eq_true rfl) dL_law_0 (fun h_t H hP hD hS => ?_)
  have hP : va_P G vwCl ([(h_t, .inr (9, [.null, .null, .null, .null, .null, .null, .null, .null, .null, .null, .null, .null, .null, .null, .int 0]))] ++ []) H := hP
  have hD : va_D A ([(h_t, .inr (9, [.null, .null, .null, .null, .null, .null, .null, .null, .null, .null, .null, .null, .null, .null, .int 0]))] ++ []) := hD
  refine lv_dup hx hb dL_law_3 rfl ?_
  refine ml_I F.1 hK hEI hA hP hD hS (c_X10_init l G Y tF H.size h_t) (cwI 0 hts gL_law_X10_init rfl rfl rfl (hts0 (.initialized RX10) (by decide +kernel)) (hts0 (.methodLink RL 19 yX10_init) (by decide +kernel)) (hts0 (.instanceMethod yX10_init) (by decide +kernel)) rfl (by decide +kernel) ⟨Nat.le_of_ble_eq_true rfl, Nat.le_of_ble_eq_true rfl⟩) rfl hl.1 rfl (Nat.le_of_ble_eq_true rfl) dL_law_4 ⟨Nat.le_of_ble_eq_true rfl, Nat.le_of_ble_eq_true rfl⟩ (fun u H locs _ hP hD hS => ?_)
  obtain ⟨B_t, B_t_braid, B_t_classes, B_t_contrary, B_t_current, B_t_draft, B_t_keeps, B_t_keeps_e, B_t_lister, B_t_lister_racks, B_t_lister_trial, B_t_matcher, B_t_namer, B_t_namer_best, B_t_solver, B_t_turnGroup, B_t_twisting⟩ := u
  try dsimp only at hP hD
  rw [List.append_nil] at hP hD
  refine lv_astore_n (lv' := [(1, .ref h_t), (0, .ref b)]) hx hb dL_law_7 rfl hl (by decide) rfl (fun ls hl => ?_)
  refine va_new (ci := 10) (fs := [.int 0, .int 0, .null, .int 0, .null, .null, .null, .null, .null, .null, .null, .int 0, .null, .null, .null, .null, .null, .null, .null, .null, .int 0, .int 0, .null, .null, .null, .null, .int 0, .int 0, .int 0]) (C := RX11) (T := TX11) (N := 29) hx hb hts inlX11 tyX11 tyX11_ok hown (hts0 (.classLink RL 20 RX11) (by decide +kernel)) (hts0 (.instantiable RX11 29) (by decide +kernel)) (hts0 (.initialized RX11) (by decide +kernel)) hK hP hD hS hA rfl def_X11 (Nat.le_of_ble_eq_true rfl) (Nat.le_of_ble_eq_true rfl) dL_law_8 (fun h_m H hP hD hS => ?_)
  have hP := ap_Pc hP
  have hD := ap_Dc hD
  refine lv_dup hx hb dL_law_11 rfl ?_
  refine ml_I F.1 hK hEI hA hP hD hS (c_X11_init l G Y tF H.size h_m) (cwI 0 hts gL_law_X11_init rfl rfl rfl (hts0 (.initialized RX11) (by decide +kernel)) (hts0 (.methodLink RL 22 yX11_init) (by decide +kernel)) (hts0 (.instanceMethod yX11_init) (by decide +kernel)) rfl (by decide +kernel) ⟨Nat.le_of_ble_eq_true rfl, Nat.le_of_ble_eq_true rfl⟩) rfl hl.1 rfl (Nat.le_of_ble_eq_true rfl) dL_law_12 ⟨Nat.le_of_ble_eq_true rfl, Nat.le_of_ble_eq_true rfl⟩ (fun B_m H locs _ hP hD hS => ?_)
  try dsimp only at hP hD
  have hP := ap_Pc hP
  have hD := ap_Dc hD
  refine lv_astore_n (lv' := [(2, .ref h_m), (1, .ref h_t), (0, .ref b)]) hx hb dL_law_15 rfl hl (by decide) rfl (fun ls hl => ?_)
  refine lv_iconst (v := 1) hx hb dL_law_16 (by decide) ?_
  refine va_newa (atype := .long) (ty := .long) (N' := 1) (a0 := (1, .inr (.inl (fun _ => 0)))) hx hb (hts0 (.arrayClass .long) (by decide +kernel)) rfl hK hP hD hS hA (fun _ => rfl) (by decide) (by decide) (by decide) (Nat.le_of_ble_eq_true rfl) (Nat.le_of_ble_eq_true rfl) dL_law_17 (fun h_o cA H hK1 hP hD hS => ?_)
  obtain rfl : cA = Y 4 := ty_one hK1 4 5 rfl rfl
  clear hK1
  rw [List.append_assoc] at hP hD
  refine lv_astore_n (lv' := [(3, .ref h_o), (2, .ref h_m), (1, .ref h_t), (0, .ref b)]) hx hb dL_law_19 rfl hl (by decide) rfl (fun ls hl => ?_)
  refine lv_iconst (v := 0) hx hb dL_law_20 (by decide) ?_
  refine lv_istore (lv' := [(4, .int 0), (3, .ref h_o), (2, .ref h_m), (1, .ref h_t), (0, .ref b)]) hx hb dL_law_21 hl (by decide) rfl (fun ls hl => ?_)
  refine W.widen (k := 78) (n := 121844) (Nat.le_of_ble_eq_true rfl) (Nat.le_of_ble_eq_true rfl) ?_
  exact law_loop F hr hlocks hAs hX hbl hbA hL (L + 4) 0 78 121844 ls H locs 0 nI_0.symm (by omega) (by omega) (by omega) (by omega) (lv_sub hl [4, 3, 2, 1, 0] rfl) (LI.mk rel_T0 rel_W0 rel_K0 rel_B0 rel_R0 rel_L0 hP hD) hS
