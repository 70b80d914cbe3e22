abbrev w_X10_like (Y : Nat → ClassId) (h_t : Nat) (B_t : Nat → Nat) (B_t_current : Nat → Nat) (B_t_keeps : Nat → Nat) (B_t_keeps_e : Nat → Nat → Nat) (B_t_matcher : Nat → Nat) (t_toldCount : Int32) (t_current_n : Int32) (t_current_cells : Nat → Int32) (t_keeps_n : Nat → Int32) (t_keeps_cells : Nat → Nat → Int32) (t_matcher_used : Int32) (t_matcher_images : Nat → Int32) (t_matcher_signsHere : Nat → Int32) (t_matcher_signsThere : Nat → Int32) : va_W := [(h_t, .inr (9, [.ref (B_t 0), .ref (B_t 1), .ref (B_t 2), .ref (B_t 3), .ref (B_t 4), .ref (B_t 5), .ref (B_t 6), .ref (B_t 7), .ref (B_t 8), .ref (B_t 9), .ref (B_t 10), .ref (B_t 11), .ref (B_t 12), .ref (B_t 13), .int t_toldCount])), ((B_t 0), .inr (6, [.ref (B_t_current 0), .int t_current_n])), ((B_t_current 0), .inl (Y 0, 64, .inl t_current_cells)), ((B_t 3), .inl (Y 2, 4, .inr (.inr (.inr (.inr (fun i => if i < 4 then some (B_t_keeps i) else none)))))), ((B_t_keeps 0), .inr (6, [.ref ((B_t_keeps_e 0) 0), .int (t_keeps_n 0)])), (((B_t_keeps_e 0) 0), .inl (Y 0, 64, .inl (t_keeps_cells 0))), ((B_t_keeps 1), .inr (6, [.ref ((B_t_keeps_e 1) 0), .int (t_keeps_n 1)])), (((B_t_keeps_e 1) 0), .inl (Y 0, 64, .inl (t_keeps_cells 1))), ((B_t_keeps 2), .inr (6, [.ref ((B_t_keeps_e 2) 0), .int (t_keeps_n 2)])), (((B_t_keeps_e 2) 0), .inl (Y 0, 64, .inl (t_keeps_cells 2))), ((B_t_keeps 3), .inr (6, [.ref ((B_t_keeps_e 3) 0), .int (t_keeps_n 3)])), (((B_t_keeps_e 3) 0), .inl (Y 0, 64, .inl (t_keeps_cells 3))), ((B_t 7), .inr (3, [.ref (B_t_matcher 0), .ref (B_t_matcher 1), .ref (B_t_matcher 2), .int t_matcher_used])), ((B_t_matcher 2), .inl (Y 0, 8, .inl t_matcher_images)), ((B_t_matcher 0), .inl (Y 0, 8, .inl t_matcher_signsHere)), ((B_t_matcher 1), .inl (Y 0, 8, .inl t_matcher_signsThere))]

set_option maxHeartbeats 20000000 in
set_option maxRecDepth 100000 in
theorem wk_X10_like {p : Program} {l : Launch} {e : Env} {R : Room} {s : State} {m : MethodId} {args : Array Value} {below : List Frame} {meth : Method} {c : Code} {Q : State → Prop} {G : va_G} {Y : Nat → ClassId} {tF : Nat} {A : Nat → Prop} (h_t : Nat) (B_t : Nat → Nat) (B_t_current : Nat → Nat) (B_t_keeps : Nat → Nat) (B_t_keeps_e : Nat → Nat → Nat) (B_t_matcher : Nat → Nat) (t_toldCount : Int32) (t_current_n : Int32) (t_current_cells : Nat → Int32) (t_keeps_n : Nat → Int32) (t_keeps_cells : Nat → Nat → Int32) (t_matcher_used : Int32) (t_matcher_images : Nat → Int32) (t_matcher_signsHere : Nat → Int32) (t_matcher_signsThere : Nat → Int32) (x1 : Int32) {K : Int32 → Int32 → (Nat → Int32) → (Nat → Int32) → (Nat → Int32) → Prop} (hx : p.tables.exec = Jvm.exec) (hb : c.code = cX10_like) (hml : c.maxLocals = 2) (hown : s.vm.findClass RX10 = some m.cls) (hts : ∀ w ∈ wsX10_like, w.before args s = true) (hK : va_K G vwCl (tyL Y) s) (hE : Ev A tF s) (hA : ∀ q, s.heap.size ≤ q → A q) (hRf : 24 ≤ R.frames) (hRl : 588 ≤ R.locals) (hret : ∀ (r : Int32) (t_matcher_used : Int32) (t_matcher_images : Nat → Int32) (t_matcher_signsHere : Nat → Int32) (t_matcher_signsThere : Nat → Int32) (H : Heap) (locs : List Loc) (ls : Array Slot) (pc : Nat), va_P G vwCl (w_X10_like Y h_t B_t B_t_current B_t_keeps B_t_keeps_e B_t_matcher t_toldCount t_current_n t_current_cells t_keeps_n t_keeps_cells t_matcher_used t_matcher_images t_matcher_signsHere t_matcher_signsThere) H → va_D A (w_X10_like Y h_t B_t B_t_current B_t_keeps B_t_keeps_e B_t_matcher t_toldCount t_current_n t_current_cells t_keeps_n t_keeps_cells t_matcher_used t_matcher_images t_matcher_signsHere t_matcher_signsThere) → va_S A s.heap H locs → K r t_matcher_used t_matcher_images t_matcher_signsHere t_matcher_signsThere → decode cX10_like pc = .ok (.ireturn, 1) → W p l e R s m args below meth c H locs 0 0 Q (F0 m pc ls [.int r])) (hP : va_P G vwCl (w_X10_like Y h_t B_t B_t_current B_t_keeps B_t_keeps_e B_t_matcher t_toldCount t_current_n t_current_cells t_keeps_n t_keeps_cells t_matcher_used t_matcher_images t_matcher_signsHere t_matcher_signsThere) s.heap) (hD : va_D A (w_X10_like Y h_t B_t B_t_current B_t_keeps B_t_keeps_e B_t_matcher t_toldCount t_current_n t_current_cells t_keeps_n t_keeps_cells t_matcher_used t_matcher_images t_matcher_signsHere t_matcher_signsThere)) (h : pX10_like t_current_n t_current_cells t_keeps_n t_keeps_cells t_matcher_used t_matcher_images t_matcher_signsHere t_matcher_signsThere x1 K) : W p l e R s m args below meth c s.heap [] 0 0 Q (entryFrame m ([.ref h_t, .int x1] : List Value).toArray 2) := by
  have inX10 : ∀ w ∈ u_ws RX10 TX10 15, w ∈ wsX10_like := by decide +kernel
  have hf14 := hts (.fieldLink RX10 14 "RackBench" "current" "LRackBench$Table;") (by decide +kernel)
  have hf24 := hts (.fieldLink RX10 24 "RackBench" "keeps" "[LRackBench$Table;") (by decide +kernel)
  have hf52 := hts (.fieldLink RX10 52 "RackBench" "matcher" "LRackBench$Matcher;") (by decide +kernel)
  have hl := lv_entry ([.ref h_t, .int x1]) (n := 2) (Nat.le_of_ble_eq_true rfl)
  rw [lg_entry_eq]
  generalize (lg_sl ([.ref h_t, .int x1]) ++ List.replicate (2 - (lg_sl ([.ref h_t, .int x1])).length) Slot.unset).toArray = ls at hl ⊢
  have hl : lv_has ls 2 [(0, .ref h_t), (1, .int x1)] := hl
  generalize hH0 : s.heap = H at hP ⊢
  have hS : va_S A s.heap H [] := by rw [← hH0]; exact va_S.rf
  clear hH0
  generalize ([] : List Loc) = locs at hS ⊢
  refine lv_aload_n hx hb dX10_like_0 rfl (lv_at hl 0 rfl) ?_
  refine lv_iload_n hx hb dX10_like_1 rfl (lv_at hl 1 rfl) ?_
  refine mc_iV ⟨hx, hb, hml, hown, hts⟩ hK hE hA hP hD hS (c_X10_isFilled l G Y tF H.size h_t B_t B_t_keeps B_t_keeps_e t_toldCount t_keeps_n x1 h) (cwV 1 hts gX10_like_X10_isFilled rfl rfl rfl (by decide +kernel) ⟨Nat.le_trans (by decide) hRf, Nat.le_trans (by decide) hRl⟩) (fun u => (w_X10_like Y h_t B_t B_t_current B_t_keeps B_t_keeps_e B_t_matcher t_toldCount t_current_n t_current_cells t_keeps_n t_keeps_cells t_matcher_used t_matcher_images t_matcher_signsHere t_matcher_signsThere)) [0, 3, 4, 6, 8, 10] [1, 2, 5, 7, 9, 11, 12, 13, 14, 15] [10, 0, 1, 11, 12, 2, 13, 3, 14, 4, 15, 5, 6, 7, 8, 9] rfl rfl rfl rfl (by decide) (fun _ => rfl) rfl 0 9 rfl rfl rfl rfl hl.1 rfl (Nat.le_of_ble_eq_true rfl) dX10_like_2 (fun r2 u H locs h hP hD hS => ?_)
  try dsimp only at h
  have hP : va_P G vwCl (w_X10_like Y h_t B_t B_t_current B_t_keeps B_t_keeps_e B_t_matcher t_toldCount t_current_n t_current_cells t_keeps_n t_keeps_cells t_matcher_used t_matcher_images t_matcher_signsHere t_matcher_signsThere) H := hP
  have hD : va_D A (w_X10_like Y h_t B_t B_t_current B_t_keeps B_t_keeps_e B_t_matcher t_toldCount t_current_n t_current_cells t_keeps_n t_keeps_cells t_matcher_used t_matcher_images t_matcher_signsHere t_matcher_signsThere) := hD
  obtain ⟨ht, hf⟩ := h
  refine lv_if_ne (tgt := 10) hx hb dX10_like_5 (by decide) (fun c9 => ?_) (fun c9 => ?_)
  · have h := ht c9
    refine lv_aload_n hx hb dX10_like_10 rfl (lv_at hl 0 rfl) ?_
    refine va_get (D := G) (ci := 9) (v := .ref (B_t 7)) (C := RX10) (T := TX10) (N := 15) hx hb hts inX10 hown hK hP 0 rfl rfl 7 (by decide) hf52 (fun _ h9 => h9) rfl dX10_like_11 ?_
    refine lv_aload_n hx hb dX10_like_14 rfl (lv_at hl 0 rfl) ?_
    refine va_get (D := G) (ci := 9) (v := .ref (B_t 0)) (C := RX10) (T := TX10) (N := 15) hx hb hts inX10 hown hK hP 0 rfl rfl 0 (by decide) hf14 (fun _ h9 => h9) rfl dX10_like_15 ?_
    refine lv_aload_n hx hb dX10_like_18 rfl (lv_at hl 0 rfl) ?_
    refine va_get (D := G) (ci := 9) (v := .ref (B_t 3)) (C := RX10) (T := TX10) (N := 15) hx hb hts inX10 hown hK hP 0 rfl rfl 3 (by decide) hf24 (fun _ h9 => h9) rfl dX10_like_19 ?_
    refine lv_iload_n hx hb dX10_like_22 rfl (lv_at hl 1 rfl) ?_
    obtain ⟨hin, h⟩ := h
    refine va_aldq hx hb hK hP 3 2 rfl rfl hin dX10_like_23 ?_
    obtain ⟨j9, hj9, e9⟩ := vp_in_of hin (by decide)
    have e8 : Int32.toNatClampNeg x1 = j9 := by rw [e9]; exact nI_clamp (by omega)
    simp only [e8]
    have e70 : t_keeps_n (Int32.toNatClampNeg x1) = t_keeps_n j9 := by rw [e8]
    have e60 : ∀ v9, va_up t_keeps_n (Int32.toNatClampNeg x1) v9 = va_up t_keeps_n j9 v9 := by intro v9; rw [e8]
    have e71 : t_keeps_cells (Int32.toNatClampNeg x1) = t_keeps_cells j9 := by rw [e8]
    have e61 : ∀ v9, va_up t_keeps_cells (Int32.toNatClampNeg x1) v9 = va_up t_keeps_cells j9 v9 := by intro v9; rw [e8]
    try simp only [e70, e71, e60, e61] at h
    clear e70 e60 e71 e61
    clear hin e9
    rcases (show j9 = 0 ∨ j9 = 1 ∨ j9 = 2 ∨ j9 = 3 by omega) with rfl | rfl | rfl | rfl
    · clear hj9
      refine W.eq (g2 := F0 m 24 ls [.ref (B_t_keeps 0), .ref (B_t 0), .ref (B_t 7)]) rfl ?_
      refine mc_iV ⟨hx, hb, hml, hown, hts⟩ hK hE hA hP hD hS (c_X3_matches l G Y tF H.size (B_t 7) (B_t 0) (B_t_keeps 0) B_t_matcher B_t_current (B_t_keeps_e 0) t_matcher_used t_matcher_images t_matcher_signsHere t_matcher_signsThere t_current_n t_current_cells (t_keeps_n 0) (t_keeps_cells 0) h) (cwV 2 hts gX10_like_X3_matches rfl rfl rfl (by decide +kernel) ⟨Nat.le_trans (by decide) hRf, Nat.le_trans (by decide) hRl⟩) (fun u => (w_X10_like Y h_t B_t B_t_current B_t_keeps B_t_keeps_e B_t_matcher t_toldCount t_current_n t_current_cells t_keeps_n t_keeps_cells u.1 u.2.1 u.2.2.1 u.2.2.2)) [12, 13, 14, 15, 1, 2, 4, 5] [0, 3, 6, 7, 8, 9, 10, 11] [0, 12, 13, 1, 14, 15, 2, 3, 4, 5, 6, 7, 8, 9, 10, 11] rfl rfl rfl rfl (by decide) (fun _ => rfl) rfl 12 3 rfl rfl rfl rfl hl.1 rfl (Nat.le_of_ble_eq_true rfl) dX10_like_24 (fun r24 u H locs h hP hD hS => ?_)
      obtain ⟨t_matcher_used_24, t_matcher_images_24, t_matcher_signsHere_24, t_matcher_signsThere_24⟩ := u
      try dsimp only at h
      have hP : va_P G vwCl (w_X10_like Y h_t B_t B_t_current B_t_keeps B_t_keeps_e B_t_matcher t_toldCount t_current_n t_current_cells t_keeps_n t_keeps_cells t_matcher_used_24 t_matcher_images_24 t_matcher_signsHere_24 t_matcher_signsThere_24) H := hP
      have hD : va_D A (w_X10_like Y h_t B_t B_t_current B_t_keeps B_t_keeps_e B_t_matcher t_toldCount t_current_n t_current_cells t_keeps_n t_keeps_cells t_matcher_used_24 t_matcher_images_24 t_matcher_signsHere_24 t_matcher_signsThere_24) := hD
      obtain ⟨ht, hf⟩ := h
      refine lv_if_eq (tgt := 34) hx hb dX10_like_27 (by decide) (fun c9 => ?_) (fun c9 => ?_)
      · have h := ht c9
        refine lv_iconst (v := 0) hx hb dX10_like_34 (by decide) ?_
        exact hret (0 : Int32) t_matcher_used_24 t_matcher_images_24 t_matcher_signsHere_24 t_matcher_signsThere_24 H locs ls _ hP hD hS h dX10_like_35
      · have h := hf c9
        refine lv_iconst (v := 1) hx hb dX10_like_30 (by decide) ?_
        refine lv_goto (tgt := 35) hx hb dX10_like_31 (by decide) ?_
        exact hret (1 : Int32) t_matcher_used_24 t_matcher_images_24 t_matcher_signsHere_24 t_matcher_signsThere_24 H locs ls _ hP hD hS h dX10_like_35
    · clear hj9
      refine W.eq (g2 := F0 m 24 ls [.ref (B_t_keeps 1), .ref (B_t 0), .ref (B_t 7)]) rfl ?_
      refine mc_iV ⟨hx, hb, hml, hown, hts⟩ hK hE hA hP hD hS (c_X3_matches l G Y tF H.size (B_t 7) (B_t 0) (B_t_keeps 1) B_t_matcher B_t_current (B_t_keeps_e 1) t_matcher_used t_matcher_images t_matcher_signsHere t_matcher_signsThere t_current_n t_current_cells (t_keeps_n 1) (t_keeps_cells 1) h) (cwV 2 hts gX10_like_X3_matches rfl rfl rfl (by decide +kernel) ⟨Nat.le_trans (by decide) hRf, Nat.le_trans (by decide) hRl⟩) (fun u => (w_X10_like Y h_t B_t B_t_current B_t_keeps B_t_keeps_e B_t_matcher t_toldCount t_current_n t_current_cells t_keeps_n t_keeps_cells u.1 u.2.1 u.2.2.1 u.2.2.2)) [12, 13, 14, 15, 1, 2, 6, 7] [0, 3, 4, 5, 8, 9, 10, 11] [0, 12, 13, 1, 2, 3, 14, 15, 4, 5, 6, 7, 8, 9, 10, 11] rfl rfl rfl rfl (by decide) (fun _ => rfl) rfl 12 3 rfl rfl rfl rfl hl.1 rfl (Nat.le_of_ble_eq_true rfl) dX10_like_24 (fun r24 u H locs h hP hD hS => ?_)
      obtain ⟨t_matcher_used_24, t_matcher_images_24, t_matcher_signsHere_24, t_matcher_signsThere_24⟩ := u
      try dsimp only at h
      have hP : va_P G vwCl (w_X10_like Y h_t B_t B_t_current B_t_keeps B_t_keeps_e B_t_matcher t_toldCount t_current_n t_current_cells t_keeps_n t_keeps_cells t_matcher_used_24 t_matcher_images_24 t_matcher_signsHere_24 t_matcher_signsThere_24) H := hP
      have hD : va_D A (w_X10_like Y h_t B_t B_t_current B_t_keeps B_t_keeps_e B_t_matcher t_toldCount t_current_n t_current_cells t_keeps_n t_keeps_cells t_matcher_used_24 t_matcher_images_24 t_matcher_signsHere_24 t_matcher_signsThere_24) := hD
      obtain ⟨ht, hf⟩ := h
      refine lv_if_eq (tgt := 34) hx hb dX10_like_27 (by decide) (fun c9 => ?_) (fun c9 => ?_)
      · have h := ht c9
        refine lv_iconst (v := 0) hx hb dX10_like_34 (by decide) ?_
        exact hret (0 : Int32) t_matcher_used_24 t_matcher_images_24 t_matcher_signsHere_24 t_matcher_signsThere_24 H locs ls _ hP hD hS h dX10_like_35
      · have h := hf c9
        refine lv_iconst (v := 1) hx hb dX10_like_30 (by decide) ?_
        refine lv_goto (tgt := 35) hx hb dX10_like_31 (by decide) ?_
        exact hret (1 : Int32) t_matcher_used_24 t_matcher_images_24 t_matcher_signsHere_24 t_matcher_signsThere_24 H locs ls _ hP hD hS h dX10_like_35
    · clear hj9
      refine W.eq (g2 := F0 m 24 ls [.ref (B_t_keeps 2), .ref (B_t 0), .ref (B_t 7)]) rfl ?_
      refine mc_iV ⟨hx, hb, hml, hown, hts⟩ hK hE hA hP hD hS (c_X3_matches l G Y tF H.size (B_t 7) (B_t 0) (B_t_keeps 2) B_t_matcher B_t_current (B_t_keeps_e 2) t_matcher_used t_matcher_images t_matcher_signsHere t_matcher_signsThere t_current_n t_current_cells (t_keeps_n 2) (t_keeps_cells 2) h) (cwV 2 hts gX10_like_X3_matches rfl rfl rfl (by decide +kernel) ⟨Nat.le_trans (by decide) hRf, Nat.le_trans (by decide) hRl⟩) (fun u => (w_X10_like Y h_t B_t B_t_current B_t_keeps B_t_keeps_e B_t_matcher t_toldCount t_current_n t_current_cells t_keeps_n t_keeps_cells u.1 u.2.1 u.2.2.1 u.2.2.2)) [12, 13, 14, 15, 1, 2, 8, 9] [0, 3, 4, 5, 6, 7, 10, 11] [0, 12, 13, 1, 2, 3, 4, 5, 14, 15, 6, 7, 8, 9, 10, 11] rfl rfl rfl rfl (by decide) (fun _ => rfl) rfl 12 3 rfl rfl rfl rfl hl.1 rfl (Nat.le_of_ble_eq_true rfl) dX10_like_24 (fun r24 u H locs h hP hD hS => ?_)
      obtain ⟨t_matcher_used_24, t_matcher_images_24, t_matcher_signsHere_24, t_matcher_signsThere_24⟩ := u
      try dsimp only at h
      have hP : va_P G vwCl (w_X10_like Y h_t B_t B_t_current B_t_keeps B_t_keeps_e B_t_matcher t_toldCount t_current_n t_current_cells t_keeps_n t_keeps_cells t_matcher_used_24 t_matcher_images_24 t_matcher_signsHere_24 t_matcher_signsThere_24) H := hP
      have hD : va_D A (w_X10_like Y h_t B_t B_t_current B_t_keeps B_t_keeps_e B_t_matcher t_toldCount t_current_n t_current_cells t_keeps_n t_keeps_cells t_matcher_used_24 t_matcher_images_24 t_matcher_signsHere_24 t_matcher_signsThere_24) := hD
      obtain ⟨ht, hf⟩ := h
      refine lv_if_eq (tgt := 34) hx hb dX10_like_27 (by decide) (fun c9 => ?_) (fun c9 => ?_)
      · have h := ht c9
        refine lv_iconst (v := 0) hx hb dX10_like_34 (by decide) ?_
        exact hret (0 : Int32) t_matcher_used_24 t_matcher_images_24 t_matcher_signsHere_24 t_matcher_signsThere_24 H locs ls _ hP hD hS h dX10_like_35
      · have h := hf c9
        refine lv_iconst (v := 1) hx hb dX10_like_30 (by decide) ?_
        refine lv_goto (tgt := 35) hx hb dX10_like_31 (by decide) ?_
        exact hret (1 : Int32) t_matcher_used_24 t_matcher_images_24 t_matcher_signsHere_24 t_matcher_signsThere_24 H locs ls _ hP hD hS h dX10_like_35
    · clear hj9
      refine W.eq (g2 := F0 m 24 ls [.ref (B_t_keeps 3), .ref (B_t 0), .ref (B_t 7)]) rfl ?_
      refine mc_iV ⟨hx, hb, hml, hown, hts⟩ hK hE hA hP hD hS (c_X3_matches l G Y tF H.size (B_t 7) (B_t 0) (B_t_keeps 3) B_t_matcher B_t_current (B_t_keeps_e 3) t_matcher_used t_matcher_images t_matcher_signsHere t_matcher_signsThere t_current_n t_current_cells (t_keeps_n 3) (t_keeps_cells 3) h) (cwV 2 hts gX10_like_X3_matches rfl rfl rfl (by decide +kernel) ⟨Nat.le_trans (by decide) hRf, Nat.le_trans (by decide) hRl⟩) (fun u => (w_X10_like Y h_t B_t B_t_current B_t_keeps B_t_keeps_e B_t_matcher t_toldCount t_current_n t_current_cells t_keeps_n t_keeps_cells u.1 u.2.1 u.2.2.1 u.2.2.2)) [12, 13, 14, 15, 1, 2, 10, 11] [0, 3, 4, 5, 6, 7, 8, 9] [0, 12, 13, 1, 2, 3, 4, 5, 6, 7, 14, 15, 8, 9, 10, 11] rfl rfl rfl rfl (by decide) (fun _ => rfl) rfl 12 3 rfl rfl rfl rfl hl.1 rfl (Nat.le_of_ble_eq_true rfl) dX10_like_24 (fun r24 u H locs h hP hD hS => ?_)
      obtain ⟨t_matcher_used_24, t_matcher_images_24, t_matcher_signsHere_24, t_matcher_signsThere_24⟩ := u
      try dsimp only at h
      have hP : va_P G vwCl (w_X10_like Y h_t B_t B_t_current B_t_keeps B_t_keeps_e B_t_matcher t_toldCount t_current_n t_current_cells t_keeps_n t_keeps_cells t_matcher_used_24 t_matcher_images_24 t_matcher_signsHere_24 t_matcher_signsThere_24) H := hP
      have hD : va_D A (w_X10_like Y h_t B_t B_t_current B_t_keeps B_t_keeps_e B_t_matcher t_toldCount t_current_n t_current_cells t_keeps_n t_keeps_cells t_matcher_used_24 t_matcher_images_24 t_matcher_signsHere_24 t_matcher_signsThere_24) := hD
      obtain ⟨ht, hf⟩ := h
      refine lv_if_eq (tgt := 34) hx hb dX10_like_27 (by decide) (fun c9 => ?_) (fun c9 => ?_)
      · have h := ht c9
        refine lv_iconst (v := 0) hx hb dX10_like_34 (by decide) ?_
        exact hret (0 : Int32) t_matcher_used_24 t_matcher_images_24 t_matcher_signsHere_24 t_matcher_signsThere_24 H locs ls _ hP hD hS h dX10_like_35
      · have h := hf c9
        refine lv_iconst (v := 1) hx hb dX10_like_30 (by decide) ?_
        refine lv_goto (tgt := 35) hx hb dX10_like_31 (by decide) ?_
        exact hret (1 : Int32) t_matcher_used_24 t_matcher_images_24 t_matcher_signsHere_24 t_matcher_signsThere_24 H locs ls _ hP hD hS h dX10_like_35
  · have h := hf c9
    refine lv_iconst (v := -1) hx hb dX10_like_8 (by decide) ?_
    exact hret (-1 : Int32) t_matcher_used t_matcher_images t_matcher_signsHere t_matcher_signsThere H locs ls _ hP hD hS h dX10_like_9

set_option maxHeartbeats 20000000 in
set_option maxRecDepth 100000 in
theorem c_X10_like (l : Launch) (G : va_G) (Y : Nat → ClassId) (tF sz : Nat) (h_t : Nat) (B_t : Nat → Nat) (B_t_current : Nat → Nat) (B_t_keeps : Nat → Nat) (B_t_keeps_e : Nat → Nat → Nat) (B_t_matcher : Nat → Nat) (t_toldCount : Int32) (t_current_n : Int32) (t_current_cells : Nat → Int32) (t_keeps_n : Nat → Int32) (t_keeps_cells : Nat → Nat → Int32) (t_matcher_used : Int32) (t_matcher_images : Nat → Int32) (t_matcher_signsHere : Nat → Int32) (t_matcher_signsThere : Nat → Int32) (x1 : Int32) {K : Int32 → Int32 → (Nat → Int32) → (Nat → Int32) → (Nat → Int32) → Prop} (h : pX10_like t_current_n t_current_cells t_keeps_n t_keeps_cells t_matcher_used t_matcher_images t_matcher_signsHere t_matcher_signsThere x1 K) : Met l yX10_like wsX10_like ({ frames := 24, cells := 0, slots := 0, locals := 588 }) (PcM G Y tF sz (w_X10_like Y h_t B_t B_t_current B_t_keeps B_t_keeps_e B_t_matcher t_toldCount t_current_n t_current_cells t_keeps_n t_keeps_cells t_matcher_used t_matcher_images t_matcher_signsHere t_matcher_signsThere) [.ref h_t, .int x1]) (va_Qi (fun (r : Int32) (u : Int32 × (Nat → Int32) × (Nat → Int32) × (Nat → Int32)) => K r u.1 u.2.1 u.2.2.1 u.2.2.2) (fun u t => BM G Y (va_A (w_X10_like Y h_t B_t B_t_current B_t_keeps B_t_keeps_e B_t_matcher t_toldCount t_current_n t_current_cells t_keeps_n t_keeps_cells t_matcher_used t_matcher_images t_matcher_signsHere t_matcher_signsThere) sz) (w_X10_like Y h_t B_t B_t_current B_t_keeps B_t_keeps_e B_t_matcher t_toldCount t_current_n t_current_cells t_keeps_n t_keeps_cells u.1 u.2.1 u.2.2.1 u.2.2.2) t) (va_A (w_X10_like Y h_t B_t B_t_current B_t_keeps B_t_keeps_e B_t_matcher t_toldCount t_current_n t_current_cells t_keeps_n t_keeps_cells t_matcher_used t_matcher_images t_matcher_signsHere t_matcher_signsThere) sz)) 0 0 (va_A (w_X10_like Y h_t B_t B_t_current B_t_keeps B_t_keeps_e B_t_matcher t_toldCount t_current_n t_current_cells t_keeps_n t_keeps_cells t_matcher_used t_matcher_images t_matcher_signsHere t_matcher_signsThere) sz) := by
  refine Met.ofW (cc := cX10_like) (maxL := 2) (ret := (some .int)) (by decide +kernel) rfl ?_
  intro p e s m args below meth c s₁ B hml hv
  obtain ⟨rfl, hsz, hP, hK, hD0, hE⟩ := hv
  have hts := atoms_spec (ws := wsX10_like) B.pre
  have hown : s.vm.findClass RX10 = some m.cls := findClass_of_methodNamed B.named
  have hlocks := B.notSynchronized
  subst hsz
  have hD := hD0.self (sz := s.heap.size)
  exact wk_X10_like h_t B_t B_t_current B_t_keeps B_t_keeps_e B_t_matcher t_toldCount t_current_n t_current_cells t_keeps_n t_keeps_cells t_matcher_used t_matcher_images t_matcher_signsHere t_matcher_signsThere x1 B.exec B.bytes hml hown hts hK hE (fun q h => Or.inr h) (Nat.le_refl _) (Nat.le_refl _) (fun r t_matcher_used t_matcher_images t_matcher_signsHere t_matcher_signsThere H locs ls pc hP hD hS hk hd => W.iret (v := r) B.exec B.bytes B.returns (fun t ht hW => ⟨⟨r, (t_matcher_used, t_matcher_images, t_matcher_signsHere, t_matcher_signsThere), rfl, hk, by rw [ht]; exact hP, va_K.moved hW.alike hK, hD⟩, hS.F ht⟩) hS.2.2 hd) hP hD h

abbrev w_X10_dual (Y : Nat → ClassId) (h_t : Nat) (B_t : Nat → Nat) (B_t_current : Nat → Nat) (B_t_draft : Nat → Nat) (B_t_twisting : Nat → Nat) (t_toldCount : Int32) (t_current_n : Int32) (t_current_cells : Nat → Int32) (t_draft_n : Int32) (t_draft_cells : Nat → Int32) (t_twisting_modulus : Int32) (t_twisting_values : Nat → Int32) : va_W := [(h_t, .inr (9, [.ref (B_t 0), .ref (B_t 1), .ref (B_t 2), .ref (B_t 3), .ref (B_t 4), .ref (B_t 5), .ref (B_t 6), .ref (B_t 7), .ref (B_t 8), .ref (B_t 9), .ref (B_t 10), .ref (B_t 11), .ref (B_t 12), .ref (B_t 13), .int t_toldCount])), ((B_t 0), .inr (6, [.ref (B_t_current 0), .int t_current_n])), ((B_t_current 0), .inl (Y 0, 64, .inl t_current_cells)), ((B_t 1), .inr (6, [.ref (B_t_draft 0), .int t_draft_n])), ((B_t_draft 0), .inl (Y 0, 64, .inl t_draft_cells)), ((B_t 4), .inr (8, [.ref (B_t_twisting 0), .int t_twisting_modulus])), ((B_t_twisting 0), .inl (Y 0, 64, .inl t_twisting_values))]

set_option maxHeartbeats 20000000 in
set_option maxRecDepth 100000 in
theorem wk_X10_dual {p : Program} {l : Launch} {e : Env} {R : Room} {s : State} {m : MethodId} {args : Array Value} {below : List Frame} {meth : Method} {c : Code} {Q : State → Prop} {G : va_G} {Y : Nat → ClassId} {tF : Nat} {A : Nat → Prop} (h_t : Nat) (B_t : Nat → Nat) (B_t_current : Nat → Nat) (B_t_draft : Nat → Nat) (B_t_twisting : Nat → Nat) (t_toldCount : Int32) (t_current_n : Int32) (t_current_cells : Nat → Int32) (t_draft_n : Int32) (t_draft_cells : Nat → Int32) (t_twisting_modulus : Int32) (t_twisting_values : Nat → Int32) {K : Int32 → Int32 → (Nat → Int32) → Int32 → (Nat → Int32) → (Nat → Int32) → Prop} (hx : p.tables.exec = Jvm.exec) (hb : c.code = cX10_dual) (hml : c.maxLocals = 1) (hown : s.vm.findClass RX10 = some m.cls) (hts : ∀ w ∈ wsX10_dual, w.before args s = true) (hK : va_K G vwCl (tyL Y) s) (hE : Ev A tF s) (hA : ∀ q, s.heap.size ≤ q → A q) (hRf : 3 ≤ R.frames) (hRl : 105 ≤ R.locals) (hret : ∀ (r : Int32) (t_current_n : Int32) (t_current_cells : Nat → Int32) (t_draft_n : Int32) (t_draft_cells : Nat → Int32) (t_twisting_values : Nat → Int32) (H : Heap) (locs : List Loc) (ls : Array Slot) (pc : Nat), va_P G vwCl (w_X10_dual Y h_t B_t B_t_current B_t_draft B_t_twisting t_toldCount t_current_n t_current_cells t_draft_n t_draft_cells t_twisting_modulus t_twisting_values) H → va_D A (w_X10_dual Y h_t B_t B_t_current B_t_draft B_t_twisting t_toldCount t_current_n t_current_cells t_draft_n t_draft_cells t_twisting_modulus t_twisting_values) → va_S A s.heap H locs → zb r → K r t_current_n t_current_cells t_draft_n t_draft_cells t_twisting_values → decode cX10_dual pc = .ok (.ireturn, 1) → W p l e R s m args below meth c H locs 0 0 Q (F0 m pc ls [.int r])) (hP : va_P G vwCl (w_X10_dual Y h_t B_t B_t_current B_t_draft B_t_twisting t_toldCount t_current_n t_current_cells t_draft_n t_draft_cells t_twisting_modulus t_twisting_values) s.heap) (hD : va_D A (w_X10_dual Y h_t B_t B_t_current B_t_draft B_t_twisting t_toldCount t_current_n t_current_cells t_draft_n t_draft_cells t_twisting_modulus t_twisting_values)) (h : pX10_dual t_current_n t_current_cells t_draft_n t_draft_cells t_twisting_values K) : W p l e R s m args below meth c s.heap [] 0 0 Q (entryFrame m ([.ref h_t] : List Value).toArray 1) := by
  have inX10 : ∀ w ∈ u_ws RX10 TX10 15, w ∈ wsX10_dual := by decide +kernel
  have hf14 := hts (.fieldLink RX10 14 "RackBench" "current" "LRackBench$Table;") (by decide +kernel)
  have hf18 := hts (.fieldLink RX10 18 "RackBench" "draft" "LRackBench$Table;") (by decide +kernel)
  have hl := lv_entry ([.ref h_t]) (n := 1) (Nat.le_of_ble_eq_true rfl)
  rw [lg_entry_eq]
  generalize (lg_sl ([.ref h_t]) ++ List.replicate (1 - (lg_sl ([.ref h_t])).length) Slot.unset).toArray = ls at hl ⊢
  have hl : lv_has ls 1 [(0, .ref h_t)] := hl
  generalize hH0 : s.heap = H at hP ⊢
  have hS : va_S A s.heap H [] := by rw [← hH0]; exact va_S.rf
  clear hH0
  generalize ([] : List Loc) = locs at hS ⊢
  refine lv_aload_n hx hb dX10_dual_0 rfl (lv_at hl 0 rfl) ?_
  refine va_get (D := G) (ci := 9) (v := .ref (B_t 0)) (C := RX10) (T := TX10) (N := 15) hx hb hts inX10 hown hK hP 0 rfl rfl 0 (by decide) hf14 (fun _ h9 => h9) rfl dX10_dual_1 ?_
  refine mc_iV ⟨hx, hb, hml, hown, hts⟩ hK hE hA hP hD hS (c_X7_firstTornRow l G Y tF H.size (B_t 0) B_t_current t_current_n t_current_cells h) (cwV 0 hts gX10_dual_X7_firstTornRow rfl rfl rfl (by decide +kernel) ⟨Nat.le_trans (by decide) hRf, Nat.le_trans (by decide) hRl⟩) (fun u => (w_X10_dual Y h_t B_t B_t_current B_t_draft B_t_twisting t_toldCount t_current_n t_current_cells t_draft_n t_draft_cells t_twisting_modulus t_twisting_values)) [1, 2] [0, 3, 4, 5, 6] [0, 5, 6, 1, 2, 3, 4] rfl rfl rfl rfl (by decide) (fun _ => rfl) rfl 1 6 rfl rfl rfl rfl hl.1 rfl (Nat.le_of_ble_eq_true rfl) dX10_dual_4 (fun r4 u H locs h hP hD hS => ?_)
  try dsimp only at h
  have hP : va_P G vwCl (w_X10_dual Y h_t B_t B_t_current B_t_draft B_t_twisting t_toldCount t_current_n t_current_cells t_draft_n t_draft_cells t_twisting_modulus t_twisting_values) H := hP
  have hD : va_D A (w_X10_dual Y h_t B_t B_t_current B_t_draft B_t_twisting t_toldCount t_current_n t_current_cells t_draft_n t_draft_cells t_twisting_modulus t_twisting_values) := hD
  refine lv_iconst (v := -1) hx hb dX10_dual_7 (by decide) ?_
  obtain ⟨ht, hf⟩ := h
  refine lv_icmp_eq (tgt := 13) hx hb dX10_dual_8 (by decide) (fun c9 => ?_) (fun c9 => ?_)
  · have h := ht c9
    refine lv_aload_n hx hb dX10_dual_13 rfl (lv_at hl 0 rfl) ?_
    refine va_get (D := G) (ci := 9) (v := .ref (B_t 1)) (C := RX10) (T := TX10) (N := 15) hx hb hts inX10 hown hK hP 0 rfl rfl 1 (by decide) hf18 (fun _ h9 => h9) rfl dX10_dual_14 ?_
    refine lv_aload_n hx hb dX10_dual_17 rfl (lv_at hl 0 rfl) ?_
    refine va_get (D := G) (ci := 9) (v := .ref (B_t 0)) (C := RX10) (T := TX10) (N := 15) hx hb hts inX10 hown hK hP 0 rfl rfl 0 (by decide) hf14 (fun _ h9 => h9) rfl dX10_dual_18 ?_
    refine mc_vV ⟨hx, hb, hml, hown, hts⟩ hK hE hA hP hD hS (c_X7_makeContrary l G Y tF H.size (B_t 1) (B_t 0) B_t_draft B_t_current t_draft_n t_draft_cells t_current_n t_current_cells h) (cwV 1 hts gX10_dual_X7_makeContrary rfl rfl rfl (by decide +kernel) ⟨Nat.le_trans (by decide) hRf, Nat.le_trans (by decide) hRl⟩) (fun u => (w_X10_dual Y h_t B_t B_t_current B_t_draft B_t_twisting t_toldCount t_current_n t_current_cells u.1 u.2 t_twisting_modulus t_twisting_values)) [3, 4, 1, 2] [0, 5, 6] [0, 5, 6, 3, 4, 1, 2] rfl rfl rfl rfl (by decide) (fun _ => rfl) rfl 3 6 rfl rfl rfl rfl hl.1 rfl (Nat.le_of_ble_eq_true rfl) dX10_dual_21 (fun u H locs h hP hD hS => ?_)
    obtain ⟨t_draft_n_21, t_draft_cells_21⟩ := u
    try dsimp only at h
    have hP : va_P G vwCl (w_X10_dual Y h_t B_t B_t_current B_t_draft B_t_twisting t_toldCount t_current_n t_current_cells t_draft_n_21 t_draft_cells_21 t_twisting_modulus t_twisting_values) H := hP
    have hD : va_D A (w_X10_dual Y h_t B_t B_t_current B_t_draft B_t_twisting t_toldCount t_current_n t_current_cells t_draft_n_21 t_draft_cells_21 t_twisting_modulus t_twisting_values) := hD
    refine lv_aload_n hx hb dX10_dual_24 rfl (lv_at hl 0 rfl) ?_
    refine mc_iV ⟨hx, hb, hml, hown, hts⟩ hK hE hA hP hD hS (c_X10_adoptDraft l G Y tF H.size h_t B_t B_t_current B_t_draft B_t_twisting t_toldCount t_current_n t_current_cells t_draft_n_21 t_draft_cells_21 t_twisting_modulus t_twisting_values h) (cwV 0 hts gX10_dual_X10_adoptDraft rfl rfl rfl (by decide +kernel) ⟨Nat.le_trans (by decide) hRf, Nat.le_trans (by decide) hRl⟩) (fun u => (w_X10_dual Y h_t B_t B_t_current B_t_draft B_t_twisting t_toldCount u.1 u.2.1 t_draft_n_21 t_draft_cells_21 t_twisting_modulus u.2.2)) [0, 1, 2, 3, 4, 5, 6] [] [0, 1, 2, 3, 4, 5, 6] rfl rfl rfl rfl (by decide) (fun _ => rfl) rfl 0 9 rfl rfl rfl rfl hl.1 rfl (Nat.le_of_ble_eq_true rfl) dX10_dual_25 (fun r25 u H locs h hP hD hS => ?_)
    obtain ⟨t_current_n_25, t_current_cells_25, t_twisting_values_25⟩ := u
    try dsimp only at h
    have hP : va_P G vwCl (w_X10_dual Y h_t B_t B_t_current B_t_draft B_t_twisting t_toldCount t_current_n_25 t_current_cells_25 t_draft_n_21 t_draft_cells_21 t_twisting_modulus t_twisting_values_25) H := hP
    have hD : va_D A (w_X10_dual Y h_t B_t B_t_current B_t_draft B_t_twisting t_toldCount t_current_n_25 t_current_cells_25 t_draft_n_21 t_draft_cells_21 t_twisting_modulus t_twisting_values_25) := hD
    refine lv_pop hx hb dX10_dual_28 rfl ?_
    refine lv_iconst (v := 1) hx hb dX10_dual_29 (by decide) ?_
    obtain ⟨hz, h⟩ := h
    exact hret (1 : Int32) t_current_n_25 t_current_cells_25 t_draft_n_21 t_draft_cells_21 t_twisting_values_25 H locs ls _ hP hD hS hz h dX10_dual_30
  · have h := hf c9
    refine lv_iconst (v := 0) hx hb dX10_dual_11 (by decide) ?_
    obtain ⟨hz, h⟩ := h
    exact hret (0 : Int32) t_current_n t_current_cells t_draft_n t_draft_cells t_twisting_values H locs ls _ hP hD hS hz h dX10_dual_12

set_option maxHeartbeats 20000000 in
set_option maxRecDepth 100000 in
theorem c_X10_dual (l : Launch) (G : va_G) (Y : Nat → ClassId) (tF sz : Nat) (h_t : Nat) (B_t : Nat → Nat) (B_t_current : Nat → Nat) (B_t_draft : Nat → Nat) (B_t_twisting : Nat → Nat) (t_toldCount : Int32) (t_current_n : Int32) (t_current_cells : Nat → Int32) (t_draft_n : Int32) (t_draft_cells : Nat → Int32) (t_twisting_modulus : Int32) (t_twisting_values : Nat → Int32) {K : Int32 → Int32 → (Nat → Int32) → Int32 → (Nat → Int32) → (Nat → Int32) → Prop} (h : pX10_dual t_current_n t_current_cells t_draft_n t_draft_cells t_twisting_values K) : Met l yX10_dual wsX10_dual ({ frames := 3, cells := 0, slots := 0, locals := 105 }) (PcM G Y tF sz (w_X10_dual Y h_t B_t B_t_current B_t_draft B_t_twisting t_toldCount t_current_n t_current_cells t_draft_n t_draft_cells t_twisting_modulus t_twisting_values) [.ref h_t]) (va_Qi (fun (r : Int32) (u : Int32 × (Nat → Int32) × Int32 × (Nat → Int32) × (Nat → Int32)) => K r u.1 u.2.1 u.2.2.1 u.2.2.2.1 u.2.2.2.2) (fun u t => BM G Y (va_A (w_X10_dual Y h_t B_t B_t_current B_t_draft B_t_twisting t_toldCount t_current_n t_current_cells t_draft_n t_draft_cells t_twisting_modulus t_twisting_values) sz) (w_X10_dual Y h_t B_t B_t_current B_t_draft B_t_twisting t_toldCount u.1 u.2.1 u.2.2.1 u.2.2.2.1 t_twisting_modulus u.2.2.2.2) t) (va_A (w_X10_dual Y h_t B_t B_t_current B_t_draft B_t_twisting t_toldCount t_current_n t_current_cells t_draft_n t_draft_cells t_twisting_modulus t_twisting_values) sz)) 0 0 (va_A (w_X10_dual Y h_t B_t B_t_current B_t_draft B_t_twisting t_toldCount t_current_n t_current_cells t_draft_n t_draft_cells t_twisting_modulus t_twisting_values) sz) := by
  refine Met.ofW (cc := cX10_dual) (maxL := 1) (ret := (some .boolean)) (by decide +kernel) rfl ?_
  intro p e s m args below meth c s₁ B hml hv
  obtain ⟨rfl, hsz, hP, hK, hD0, hE⟩ := hv
  have hts := atoms_spec (ws := wsX10_dual) B.pre
  have hown : s.vm.findClass RX10 = some m.cls := findClass_of_methodNamed B.named
  have hlocks := B.notSynchronized
  subst hsz
  have hD := hD0.self (sz := s.heap.size)
  exact wk_X10_dual h_t B_t B_t_current B_t_draft B_t_twisting t_toldCount t_current_n t_current_cells t_draft_n t_draft_cells t_twisting_modulus t_twisting_values B.exec B.bytes hml hown hts hK hE (fun q h => Or.inr h) (Nat.le_refl _) (Nat.le_refl _) (fun r t_current_n t_current_cells t_draft_n t_draft_cells t_twisting_values H locs ls pc hP hD hS hz hk hd => W.zret (v := r) B.exec B.bytes B.returns hz.n (fun t ht hW => ⟨⟨r, (t_current_n, t_current_cells, t_draft_n, t_draft_cells, t_twisting_values), rfl, hk, by rw [ht]; exact hP, va_K.moved hW.alike hK, hD⟩, hS.F ht⟩) hS.2.2 hd) hP hD h

abbrev w_X10_times (Y : Nat → ClassId) (h_t : Nat) (B_t : Nat → Nat) (B_t_current : Nat → Nat) (B_t_draft : Nat → Nat) (B_t_keeps : Nat → Nat) (B_t_keeps_e : Nat → Nat → Nat) (B_t_twisting : Nat → Nat) (t_toldCount : Int32) (t_current_n : Int32) (t_current_cells : Nat → Int32) (t_draft_n : Int32) (t_draft_cells : Nat → Int32) (t_keeps_n : Nat → Int32) (t_keeps_cells : Nat → Nat → Int32) (t_twisting_modulus : Int32) (t_twisting_values : Nat → Int32) : va_W := [(h_t, .inr (9, [.ref (B_t 0), .ref (B_t 1), .ref (B_t 2), .ref (B_t 3), .ref (B_t 4), .ref (B_t 5), .ref (B_t 6), .ref (B_t 7), .ref (B_t 8), .ref (B_t 9), .ref (B_t 10), .ref (B_t 11), .ref (B_t 12), .ref (B_t 13), .int t_toldCount])), ((B_t 0), .inr (6, [.ref (B_t_current 0), .int t_current_n])), ((B_t_current 0), .inl (Y 0, 64, .inl t_current_cells)), ((B_t 1), .inr (6, [.ref (B_t_draft 0), .int t_draft_n])), ((B_t_draft 0), .inl (Y 0, 64, .inl t_draft_cells)), ((B_t 3), .inl (Y 2, 4, .inr (.inr (.inr (.inr (fun i => if i < 4 then some (B_t_keeps i) else none)))))), ((B_t_keeps 0), .inr (6, [.ref ((B_t_keeps_e 0) 0), .int (t_keeps_n 0)])), (((B_t_keeps_e 0) 0), .inl (Y 0, 64, .inl (t_keeps_cells 0))), ((B_t_keeps 1), .inr (6, [.ref ((B_t_keeps_e 1) 0), .int (t_keeps_n 1)])), (((B_t_keeps_e 1) 0), .inl (Y 0, 64, .inl (t_keeps_cells 1))), ((B_t_keeps 2), .inr (6, [.ref ((B_t_keeps_e 2) 0), .int (t_keeps_n 2)])), (((B_t_keeps_e 2) 0), .inl (Y 0, 64, .inl (t_keeps_cells 2))), ((B_t_keeps 3), .inr (6, [.ref ((B_t_keeps_e 3) 0), .int (t_keeps_n 3)])), (((B_t_keeps_e 3) 0), .inl (Y 0, 64, .inl (t_keeps_cells 3))), ((B_t 4), .inr (8, [.ref (B_t_twisting 0), .int t_twisting_modulus])), ((B_t_twisting 0), .inl (Y 0, 64, .inl t_twisting_values))]

set_option maxHeartbeats 20000000 in
set_option maxRecDepth 100000 in
theorem wk_X10_times {p : Program} {l : Launch} {e : Env} {R : Room} {s : State} {m : MethodId} {args : Array Value} {below : List Frame} {meth : Method} {c : Code} {Q : State → Prop} {G : va_G} {Y : Nat → ClassId} {tF : Nat} {A : Nat → Prop} (h_t : Nat) (B_t : Nat → Nat) (B_t_current : Nat → Nat) (B_t_draft : Nat → Nat) (B_t_keeps : Nat → Nat) (B_t_keeps_e : Nat → Nat → Nat) (B_t_twisting : Nat → Nat) (t_toldCount : Int32) (t_current_n : Int32) (t_current_cells : Nat → Int32) (t_draft_n : Int32) (t_draft_cells : Nat → Int32) (t_keeps_n : Nat → Int32) (t_keeps_cells : Nat → Nat → Int32) (t_twisting_modulus : Int32) (t_twisting_values : Nat → Int32) (x1 : Int32) {K : Int32 → Int32 → (Nat → Int32) → Int32 → (Nat → Int32) → (Nat → Int32) → Prop} (hx : p.tables.exec = Jvm.exec) (hb : c.code = cX10_times) (hml : c.maxLocals = 6) (hown : s.vm.findClass RX10 = some m.cls) (hts : ∀ w ∈ wsX10_times, w.before args s = true) (hK : va_K G vwCl (tyL Y) s) (hE : Ev A tF s) (hA : ∀ q, s.heap.size ≤ q → A q) (hRf : 3 ≤ R.frames) (hRl : 105 ≤ R.locals) (hret : ∀ (r : Int32) (t_current_n : Int32) (t_current_cells : Nat → Int32) (t_draft_n : Int32) (t_draft_cells : Nat → Int32) (t_twisting_values : Nat → Int32) (H : Heap) (locs : List Loc) (ls : Array Slot) (pc : Nat), va_P G vwCl (w_X10_times Y h_t B_t B_t_current B_t_draft B_t_keeps B_t_keeps_e B_t_twisting t_toldCount t_current_n t_current_cells t_draft_n t_draft_cells t_keeps_n t_keeps_cells t_twisting_modulus t_twisting_values) H → va_D A (w_X10_times Y h_t B_t B_t_current B_t_draft B_t_keeps B_t_keeps_e B_t_twisting t_toldCount t_current_n t_current_cells t_draft_n t_draft_cells t_keeps_n t_keeps_cells t_twisting_modulus t_twisting_values) → va_S A s.heap H locs → K r t_current_n t_current_cells t_draft_n t_draft_cells t_twisting_values → decode cX10_times pc = .ok (.ireturn, 1) → W p l e R s m args below meth c H locs 0 0 Q (F0 m pc ls [.int r])) (hP : va_P G vwCl (w_X10_times Y h_t B_t B_t_current B_t_draft B_t_keeps B_t_keeps_e B_t_twisting t_toldCount t_current_n t_current_cells t_draft_n t_draft_cells t_keeps_n t_keeps_cells t_twisting_modulus t_twisting_values) s.heap) (hD : va_D A (w_X10_times Y h_t B_t B_t_current B_t_draft B_t_keeps B_t_keeps_e B_t_twisting t_toldCount t_current_n t_current_cells t_draft_n t_draft_cells t_keeps_n t_keeps_cells t_twisting_modulus t_twisting_values)) (h : pX10_times t_current_n t_current_cells t_draft_n t_draft_cells t_keeps_n t_keeps_cells t_twisting_values x1 K) : W p l e R s m args below meth c s.heap [] 0 0 Q (entryFrame m ([.ref h_t, .int x1] : List Value).toArray 6) := by
  have inX10 : ∀ w ∈ u_ws RX10 TX10 15, w ∈ wsX10_times := by decide +kernel
  have inX7 : ∀ w ∈ u_ws RX7 TX7 2, w ∈ wsX10_times := by decide +kernel
  have hf14 := hts (.fieldLink RX10 14 "RackBench" "current" "LRackBench$Table;") (by decide +kernel)
  have hf18 := hts (.fieldLink RX10 18 "RackBench" "draft" "LRackBench$Table;") (by decide +kernel)
  have hf24 := hts (.fieldLink RX10 24 "RackBench" "keeps" "[LRackBench$Table;") (by decide +kernel)
  have hl := lv_entry ([.ref h_t, .int x1]) (n := 6) (Nat.le_of_ble_eq_true rfl)
  rw [lg_entry_eq]
  generalize (lg_sl ([.ref h_t, .int x1]) ++ List.replicate (6 - (lg_sl ([.ref h_t, .int x1])).length) Slot.unset).toArray = ls at hl ⊢
  have hl : lv_has ls 6 [(0, .ref h_t), (1, .int x1)] := hl
  generalize hH0 : s.heap = H at hP ⊢
  have hS : va_S A s.heap H [] := by rw [← hH0]; exact va_S.rf
  clear hH0
  generalize ([] : List Loc) = locs at hS ⊢
  refine lv_aload_n hx hb dX10_times_0 rfl (lv_at hl 0 rfl) ?_
  refine lv_iload_n hx hb dX10_times_1 rfl (lv_at hl 1 rfl) ?_
  refine mc_iV ⟨hx, hb, hml, hown, hts⟩ hK hE hA hP hD hS (c_X10_isFilled l G Y tF H.size h_t B_t B_t_keeps B_t_keeps_e t_toldCount t_keeps_n x1 h) (cwV 1 hts gX10_times_X10_isFilled rfl rfl rfl (by decide +kernel) ⟨Nat.le_trans (by decide) hRf, Nat.le_trans (by decide) hRl⟩) (fun u => (w_X10_times Y h_t B_t B_t_current B_t_draft B_t_keeps B_t_keeps_e B_t_twisting t_toldCount t_current_n t_current_cells t_draft_n t_draft_cells t_keeps_n t_keeps_cells t_twisting_modulus t_twisting_values)) [0, 5, 6, 8, 10, 12] [1, 2, 3, 4, 7, 9, 11, 13, 14, 15] [10, 0, 1, 2, 3, 11, 12, 4, 13, 5, 14, 6, 15, 7, 8, 9] rfl rfl rfl rfl (by decide) (fun _ => rfl) rfl 0 9 rfl rfl rfl rfl hl.1 rfl (Nat.le_of_ble_eq_true rfl) dX10_times_2 (fun r2 u H locs h hP hD hS => ?_)
  try dsimp only at h
  have hP : va_P G vwCl (w_X10_times Y h_t B_t B_t_current B_t_draft B_t_keeps B_t_keeps_e B_t_twisting t_toldCount t_current_n t_current_cells t_draft_n t_draft_cells t_keeps_n t_keeps_cells t_twisting_modulus t_twisting_values) H := hP
  have hD : va_D A (w_X10_times Y h_t B_t B_t_current B_t_draft B_t_keeps B_t_keeps_e B_t_twisting t_toldCount t_current_n t_current_cells t_draft_n t_draft_cells t_keeps_n t_keeps_cells t_twisting_modulus t_twisting_values) := hD
  obtain ⟨ht, hf⟩ := h
  refine lv_if_eq (tgt := 30) hx hb dX10_times_5 (by decide) (fun c9 => ?_) (fun c9 => ?_)
  · have h := ht c9
    refine lv_iconst (v := -1) hx hb dX10_times_30 (by decide) ?_
    exact hret (-1 : Int32) t_current_n t_current_cells t_draft_n t_draft_cells t_twisting_values H locs ls _ hP hD hS h dX10_times_31
  · have h := hf c9
    refine lv_aload_n hx hb dX10_times_8 rfl (lv_at hl 0 rfl) ?_
    refine va_get (D := G) (ci := 9) (v := .ref (B_t 0)) (C := RX10) (T := TX10) (N := 15) hx hb hts inX10 hown hK hP 0 rfl rfl 0 (by decide) hf14 (fun _ h9 => h9) rfl dX10_times_9 ?_
    refine va_getN (D := G) (ci := 6) (v := .int t_current_n) (C := RX7) (T := TX7) (N := 2) hx hb hts inX7 hown hK hP 1 rfl rfl 1 (by decide) (hE.nest args 0 _ rfl) (fun _ h9 => h9) rfl dX10_times_12 ?_
    refine lv_aload_n hx hb dX10_times_15 rfl (lv_at hl 0 rfl) ?_
    refine va_get (D := G) (ci := 9) (v := .ref (B_t 3)) (C := RX10) (T := TX10) (N := 15) hx hb hts inX10 hown hK hP 0 rfl rfl 3 (by decide) hf24 (fun _ h9 => h9) rfl dX10_times_16 ?_
    refine lv_iload_n hx hb dX10_times_19 rfl (lv_at hl 1 rfl) ?_
    obtain ⟨hin, h⟩ := h
    refine va_aldq hx hb hK hP 5 2 rfl rfl hin dX10_times_20 ?_
    obtain ⟨j9, hj9, e9⟩ := vp_in_of hin (by decide)
    have e8 : Int32.toNatClampNeg x1 = j9 := by rw [e9]; exact nI_clamp (by omega)
    simp only [e8] at h ⊢
    clear hin e9
    rcases (show j9 = 0 ∨ j9 = 1 ∨ j9 = 2 ∨ j9 = 3 by omega) with rfl | rfl | rfl | rfl
    · clear hj9
      refine W.eq (g2 := F0 m 21 ls [.ref (B_t_keeps 0), .int t_current_n]) rfl ?_
      refine va_getN (D := G) (ci := 6) (v := .int (t_keeps_n 0)) (C := RX7) (T := TX7) (N := 2) hx hb hts inX7 hown hK hP 6 rfl rfl 1 (by decide) (hE.nest args 0 _ rfl) (fun _ h9 => h9) rfl dX10_times_21 ?_
      refine lv_imul hx hb dX10_times_24 ?_
      refine lv_bipush (v := 8) hx hb dX10_times_25 (by decide) ?_
      obtain ⟨ht, hf⟩ := h
      refine lv_icmp_le (tgt := 32) hx hb dX10_times_27 (by decide) (fun c9 => ?_) (fun c9 => ?_)
      · have h := ht c9
        refine lv_aload_n hx hb dX10_times_32 rfl (lv_at hl 0 rfl) ?_
        refine va_get (D := G) (ci := 9) (v := .ref (B_t 3)) (C := RX10) (T := TX10) (N := 15) hx hb hts inX10 hown hK hP 0 rfl rfl 3 (by decide) hf24 (fun _ h9 => h9) rfl dX10_times_33 ?_
        refine lv_iload_n hx hb dX10_times_36 rfl (lv_at hl 1 rfl) ?_
        obtain ⟨hin, h⟩ := h
        refine va_aldq hx hb hK hP 5 2 rfl rfl hin dX10_times_37 ?_
        simp only [e8]
        clear hin
        refine W.eq (g2 := F0 m 38 ls [.ref (B_t_keeps 0)]) rfl ?_
        refine lv_astore_n (lv' := [(2, .ref (B_t_keeps 0)), (0, .ref h_t), (1, .int x1)]) hx hb dX10_times_38 rfl hl (by decide) rfl (fun ls hl => ?_)
        refine lv_aload_n hx hb dX10_times_39 rfl (lv_at hl 0 rfl) ?_
        refine va_getN (D := G) (ci := 6) (v := .int (t_keeps_n 0)) (C := RX7) (T := TX7) (N := 2) hx hb hts inX7 hown hK hP 6 rfl rfl 1 (by decide) (hE.nest args 0 _ rfl) (fun _ h9 => h9) rfl dX10_times_40 ?_
        refine lv_istore_n (lv' := [(3, .int (t_keeps_n 0)), (2, .ref (B_t_keeps 0)), (0, .ref h_t), (1, .int x1)]) hx hb dX10_times_43 rfl hl (by decide) rfl (fun ls hl => ?_)
        refine lv_aload_n hx hb dX10_times_44 rfl (lv_at hl 2 rfl) ?_
        refine va_get (D := G) (ci := 9) (v := .ref (B_t 1)) (C := RX10) (T := TX10) (N := 15) hx hb hts inX10 hown hK hP 0 rfl rfl 1 (by decide) hf18 (fun _ h9 => h9) rfl dX10_times_45 ?_
        refine lv_aload_n hx hb dX10_times_48 rfl (lv_at hl 2 rfl) ?_
        refine va_get (D := G) (ci := 9) (v := .ref (B_t 0)) (C := RX10) (T := TX10) (N := 15) hx hb hts inX10 hown hK hP 0 rfl rfl 0 (by decide) hf14 (fun _ h9 => h9) rfl dX10_times_49 ?_
        refine va_getN (D := G) (ci := 6) (v := .int t_current_n) (C := RX7) (T := TX7) (N := 2) hx hb hts inX7 hown hK hP 1 rfl rfl 1 (by decide) (hE.nest args 0 _ rfl) (fun _ h9 => h9) rfl dX10_times_52 ?_
        refine lv_iload_n hx hb dX10_times_55 rfl (lv_at hl 0 rfl) ?_
        refine lv_imul hx hb dX10_times_56 ?_
        refine va_putN (D := G) (ci := 6) (v := .int (t_current_n * (t_keeps_n 0))) (ty := .int) (C := RX7) (T := TX7) (N := 2) hx hb hts inX7 tyX7 tyX7_ok nmX7 hown hK hP hD hS 3 rfl rfl 1 (by decide) (hE.nest args 0 _ rfl) (fun _ h9 => h9) rfl (by decide +kernel) rfl rfl (Nat.le_of_ble_eq_true rfl) dX10_times_57 (fun H locs hP hD hS => ?_)
        have hP : va_P G vwCl (w_X10_times Y h_t B_t B_t_current B_t_draft B_t_keeps B_t_keeps_e B_t_twisting t_toldCount t_current_n t_current_cells (t_current_n * (t_keeps_n 0)) t_draft_cells t_keeps_n t_keeps_cells t_twisting_modulus t_twisting_values) H := hP
        have hD : va_D A (w_X10_times Y h_t B_t B_t_current B_t_draft B_t_keeps B_t_keeps_e B_t_twisting t_toldCount t_current_n t_current_cells (t_current_n * (t_keeps_n 0)) t_draft_cells t_keeps_n t_keeps_cells t_twisting_modulus t_twisting_values) := hD
        refine lv_iconst (v := 0) hx hb dX10_times_60 (by decide) ?_
        refine lv_istore (lv' := [(4, .int (0 : Int32)), (3, .int (t_keeps_n 0)), (2, .ref (B_t_keeps 0)), (0, .ref h_t), (1, .int x1)]) hx hb dX10_times_61 hl (by decide) rfl (fun ls hl => ?_)
        obtain ⟨I63, m63, hI63, hB63⟩ := h
        have L63 : ∀ (x3 : Int32) (t_current_n : Int32) (t_current_cells : Nat → Int32) (t_draft_n : Int32) (t_twisting_values : Nat → Int32) (I63 : Int32 → (Nat → Int32) → Prop) (m63 : Int32 → (Nat → Int32) → Nat), (∀ (x4 : Int32) (t_draft_cells : Nat → Int32), I63 x4 t_draft_cells → pX10_times_63 t_keeps_n t_keeps_cells K 0 x3 t_current_n t_current_cells t_draft_n t_twisting_values x4 t_draft_cells (fun x4' t_draft_cells' => I63 x4' t_draft_cells' ∧ m63 x4' t_draft_cells' < m63 x4 t_draft_cells)) → ∀ (n : Nat) (x4 : Int32) (t_draft_cells : Nat → Int32) (H : Heap) (locs : List Loc) (ls : Array Slot), I63 x4 t_draft_cells → m63 x4 t_draft_cells < n → va_P G vwCl (w_X10_times Y h_t B_t B_t_current B_t_draft B_t_keeps B_t_keeps_e B_t_twisting t_toldCount t_current_n t_current_cells t_draft_n t_draft_cells t_keeps_n t_keeps_cells t_twisting_modulus t_twisting_values) H → va_D A (w_X10_times Y h_t B_t B_t_current B_t_draft B_t_keeps B_t_keeps_e B_t_twisting t_toldCount t_current_n t_current_cells t_draft_n t_draft_cells t_keeps_n t_keeps_cells t_twisting_modulus t_twisting_values) → va_S A s.heap H locs → lv_has ls 6 [(0, .ref h_t), (2, .ref (B_t_keeps 0)), (3, .int x3), (4, .int x4)] → W p l e R s m args below meth c H locs 0 0 Q (F0 m 63 ls []) := by
          intro x3 t_current_n t_current_cells t_draft_n t_twisting_values I63 m63 hB63 n
          induction n with
          | zero => intro x4 t_draft_cells H locs ls _ hm; exact absurd hm (Nat.not_lt_zero _)
          | succ n ih =>
            intro x4 t_draft_cells H locs ls hI hm hP hD hS hl
            obtain ⟨R63, h, rec63⟩ : ∃ R63 : Int32 → (Nat → Int32) → Prop, pX10_times_63 t_keeps_n t_keeps_cells K 0 x3 t_current_n t_current_cells t_draft_n t_twisting_values x4 t_draft_cells R63 ∧ ∀ (x4 : Int32) (t_draft_cells : Nat → Int32) (H : Heap) (locs : List Loc) (ls : Array Slot), R63 x4 t_draft_cells → va_P G vwCl (w_X10_times Y h_t B_t B_t_current B_t_draft B_t_keeps B_t_keeps_e B_t_twisting t_toldCount t_current_n t_current_cells t_draft_n t_draft_cells t_keeps_n t_keeps_cells t_twisting_modulus t_twisting_values) H → va_D A (w_X10_times Y h_t B_t B_t_current B_t_draft B_t_keeps B_t_keeps_e B_t_twisting t_toldCount t_current_n t_current_cells t_draft_n t_draft_cells t_keeps_n t_keeps_cells t_twisting_modulus t_twisting_values) → va_S A s.heap H locs → lv_has ls 6 [(0, .ref h_t), (2, .ref (B_t_keeps 0)), (3, .int x3), (4, .int x4)] → W p l e R s m args below meth c H locs 0 0 Q (F0 m 63 ls []) := ⟨_, hB63 x4 t_draft_cells hI, fun x4 t_draft_cells H locs ls hh hP hD hS hl => ih x4 t_draft_cells H locs ls hh.1 (Nat.lt_of_lt_of_le hh.2 (Nat.le_of_lt_succ hm)) hP hD hS hl⟩
            refine lv_iload hx hb dX10_times_63 (lv_at hl 3 rfl) ?_
            refine lv_aload_n hx hb dX10_times_65 rfl (lv_at hl 0 rfl) ?_
            refine va_get (D := G) (ci := 9) (v := .ref (B_t 1)) (C := RX10) (T := TX10) (N := 15) hx hb hts inX10 hown hK hP 0 rfl rfl 1 (by decide) hf18 (fun _ h9 => h9) rfl dX10_times_66 ?_
            refine va_getN (D := G) (ci := 6) (v := .int t_draft_n) (C := RX7) (T := TX7) (N := 2) hx hb hts inX7 hown hK hP 3 rfl rfl 1 (by decide) (hE.nest args 0 _ rfl) (fun _ h9 => h9) rfl dX10_times_69 ?_
            obtain ⟨ht, hf⟩ := h
            refine lv_icmp_ge (tgt := 143) hx hb dX10_times_72 (by decide) (fun c9 => ?_) (fun c9 => ?_)
            · have h := ht c9
              refine lv_aload_n hx hb dX10_times_143 rfl (lv_at hl 0 rfl) ?_
              refine mc_iV ⟨hx, hb, hml, hown, hts⟩ hK hE hA hP hD hS (c_X10_adoptDraft l G Y tF H.size h_t B_t B_t_current B_t_draft B_t_twisting t_toldCount t_current_n t_current_cells t_draft_n t_draft_cells t_twisting_modulus t_twisting_values h) (cwV 0 hts gX10_times_X10_adoptDraft rfl rfl rfl (by decide +kernel) ⟨Nat.le_trans (by decide) hRf, Nat.le_trans (by decide) hRl⟩) (fun u => (w_X10_times Y h_t B_t B_t_current B_t_draft B_t_keeps B_t_keeps_e B_t_twisting t_toldCount u.1 u.2.1 t_draft_n t_draft_cells t_keeps_n t_keeps_cells t_twisting_modulus u.2.2)) [0, 1, 2, 3, 4, 14, 15] [5, 6, 7, 8, 9, 10, 11, 12, 13] [9, 10, 11, 12, 13, 0, 1, 2, 3, 4, 5, 6, 7, 8, 14, 15] rfl rfl rfl rfl (by decide) (fun _ => rfl) rfl 0 9 rfl rfl rfl rfl hl.1 rfl (Nat.le_of_ble_eq_true rfl) dX10_times_144 (fun r144 u H locs h hP hD hS => ?_)
              obtain ⟨t_current_n_144, t_current_cells_144, t_twisting_values_144⟩ := u
              try dsimp only at h
              have hP : va_P G vwCl (w_X10_times Y h_t B_t B_t_current B_t_draft B_t_keeps B_t_keeps_e B_t_twisting t_toldCount t_current_n_144 t_current_cells_144 t_draft_n t_draft_cells t_keeps_n t_keeps_cells t_twisting_modulus t_twisting_values_144) H := hP
              have hD : va_D A (w_X10_times Y h_t B_t B_t_current B_t_draft B_t_keeps B_t_keeps_e B_t_twisting t_toldCount t_current_n_144 t_current_cells_144 t_draft_n t_draft_cells t_keeps_n t_keeps_cells t_twisting_modulus t_twisting_values_144) := hD
              exact hret r144 t_current_n_144 t_current_cells_144 t_draft_n t_draft_cells t_twisting_values_144 H locs ls _ hP hD hS h dX10_times_147
            · have h := hf c9
              refine lv_iconst (v := 0) hx hb dX10_times_75 (by decide) ?_
              refine lv_istore (lv' := [(5, .int (0 : Int32)), (0, .ref h_t), (2, .ref (B_t_keeps 0)), (3, .int x3), (4, .int x4)]) hx hb dX10_times_76 hl (by decide) rfl (fun ls hl => ?_)
              obtain ⟨I78, m78, hI78, hB78⟩ := h
              have L78 : ∀ (x4 : Int32) (I78 : Int32 → (Nat → Int32) → Prop) (m78 : Int32 → (Nat → Int32) → Nat), (∀ (x5 : Int32) (t_draft_cells : Nat → Int32), I78 x5 t_draft_cells → pX10_times_78 t_keeps_n t_keeps_cells R63 K 0 x3 t_current_n t_current_cells t_draft_n t_twisting_values x4 x5 t_draft_cells (fun x5' t_draft_cells' => I78 x5' t_draft_cells' ∧ m78 x5' t_draft_cells' < m78 x5 t_draft_cells)) → ∀ (n : Nat) (x5 : Int32) (t_draft_cells : Nat → Int32) (H : Heap) (locs : List Loc) (ls : Array Slot), I78 x5 t_draft_cells → m78 x5 t_draft_cells < n → va_P G vwCl (w_X10_times Y h_t B_t B_t_current B_t_draft B_t_keeps B_t_keeps_e B_t_twisting t_toldCount t_current_n t_current_cells t_draft_n t_draft_cells t_keeps_n t_keeps_cells t_twisting_modulus t_twisting_values) H → va_D A (w_X10_times Y h_t B_t B_t_current B_t_draft B_t_keeps B_t_keeps_e B_t_twisting t_toldCount t_current_n t_current_cells t_draft_n t_draft_cells t_keeps_n t_keeps_cells t_twisting_modulus t_twisting_values) → va_S A s.heap H locs → lv_has ls 6 [(0, .ref h_t), (2, .ref (B_t_keeps 0)), (3, .int x3), (4, .int x4), (5, .int x5)] → W p l e R s m args below meth c H locs 0 0 Q (F0 m 78 ls []) := by
                intro x4 I78 m78 hB78 n
                induction n with
                | zero => intro x5 t_draft_cells H locs ls _ hm; exact absurd hm (Nat.not_lt_zero _)
                | succ n ih =>
                  intro x5 t_draft_cells H locs ls hI hm hP hD hS hl
                  obtain ⟨R78, h, rec78⟩ : ∃ R78 : Int32 → (Nat → Int32) → Prop, pX10_times_78 t_keeps_n t_keeps_cells R63 K 0 x3 t_current_n t_current_cells t_draft_n t_twisting_values x4 x5 t_draft_cells R78 ∧ ∀ (x5 : Int32) (t_draft_cells : Nat → Int32) (H : Heap) (locs : List Loc) (ls : Array Slot), R78 x5 t_draft_cells → va_P G vwCl (w_X10_times Y h_t B_t B_t_current B_t_draft B_t_keeps B_t_keeps_e B_t_twisting t_toldCount t_current_n t_current_cells t_draft_n t_draft_cells t_keeps_n t_keeps_cells t_twisting_modulus t_twisting_values) H → va_D A (w_X10_times Y h_t B_t B_t_current B_t_draft B_t_keeps B_t_keeps_e B_t_twisting t_toldCount t_current_n t_current_cells t_draft_n t_draft_cells t_keeps_n t_keeps_cells t_twisting_modulus t_twisting_values) → va_S A s.heap H locs → lv_has ls 6 [(0, .ref h_t), (2, .ref (B_t_keeps 0)), (3, .int x3), (4, .int x4), (5, .int x5)] → W p l e R s m args below meth c H locs 0 0 Q (F0 m 78 ls []) := ⟨_, hB78 x5 t_draft_cells hI, fun x5 t_draft_cells H locs ls hh hP hD hS hl => ih x5 t_draft_cells H locs ls hh.1 (Nat.lt_of_lt_of_le hh.2 (Nat.le_of_lt_succ hm)) hP hD hS hl⟩
                  refine lv_iload hx hb dX10_times_78 (lv_at hl 4 rfl) ?_
                  refine lv_aload_n hx hb dX10_times_80 rfl (lv_at hl 0 rfl) ?_
                  refine va_get (D := G) (ci := 9) (v := .ref (B_t 1)) (C := RX10) (T := TX10) (N := 15) hx hb hts inX10 hown hK hP 0 rfl rfl 1 (by decide) hf18 (fun _ h9 => h9) rfl dX10_times_81 ?_
                  refine va_getN (D := G) (ci := 6) (v := .int t_draft_n) (C := RX7) (T := TX7) (N := 2) hx hb hts inX7 hown hK hP 3 rfl rfl 1 (by decide) (hE.nest args 0 _ rfl) (fun _ h9 => h9) rfl dX10_times_84 ?_
                  obtain ⟨ht, hf⟩ := h
                  refine lv_icmp_ge (tgt := 137) hx hb dX10_times_87 (by decide) (fun c9 => ?_) (fun c9 => ?_)
                  · have h := ht c9
                    refine lv_iinc (v := (x4 + 1)) (lv' := [(4, .int (x4 + 1)), (0, .ref h_t), (2, .ref (B_t_keeps 0)), (3, .int x3), (5, .int x5)]) hx hb dX10_times_137 hl (k := 3) rfl rfl (by decide) rfl (fun ls hl => ?_)
                    refine lv_goto (tgt := 63) hx hb dX10_times_140 (by decide) ?_
                    exact rec63 (x4 + 1) t_draft_cells H locs ls h hP hD hS (lv_sub hl [1, 2, 3, 0] rfl)
                  · have h := hf c9
                    refine lv_aload_n hx hb dX10_times_90 rfl (lv_at hl 0 rfl) ?_
                    refine va_get (D := G) (ci := 9) (v := .ref (B_t 1)) (C := RX10) (T := TX10) (N := 15) hx hb hts inX10 hown hK hP 0 rfl rfl 1 (by decide) hf18 (fun _ h9 => h9) rfl dX10_times_91 ?_
                    refine lv_iload hx hb dX10_times_94 (lv_at hl 3 rfl) ?_
                    refine lv_iload hx hb dX10_times_96 (lv_at hl 4 rfl) ?_
                    refine lv_iload_n hx hb dX10_times_98 rfl (lv_at hl 2 rfl) ?_
                    refine lv_aload_n hx hb dX10_times_99 rfl (lv_at hl 0 rfl) ?_
                    refine va_get (D := G) (ci := 9) (v := .ref (B_t 0)) (C := RX10) (T := TX10) (N := 15) hx hb hts inX10 hown hK hP 0 rfl rfl 0 (by decide) hf14 (fun _ h9 => h9) rfl dX10_times_100 ?_
                    refine lv_iload hx hb dX10_times_103 (lv_at hl 3 rfl) ?_
                    refine lv_iload_n hx hb dX10_times_105 rfl (lv_at hl 2 rfl) ?_
                    obtain ⟨hne, h⟩ := h
                    refine lv_idiv hx hb dX10_times_106 hne ?_
                    refine lv_iload hx hb dX10_times_107 (lv_at hl 4 rfl) ?_
                    refine lv_iload_n hx hb dX10_times_109 rfl (lv_at hl 2 rfl) ?_
                    obtain ⟨hne, h⟩ := h
                    refine lv_idiv hx hb dX10_times_110 hne ?_
                    refine mc_iV ⟨hx, hb, hml, hown, hts⟩ hK hE hA hP hD hS (c_X7_turned l G Y tF H.size (B_t 0) B_t_current t_current_n t_current_cells (x4 / x3) (x5 / x3) h) (cwV 2 hts gX10_times_X7_turned rfl rfl rfl (by decide +kernel) ⟨Nat.le_trans (by decide) hRf, Nat.le_trans (by decide) hRl⟩) (fun u => (w_X10_times Y h_t B_t B_t_current B_t_draft B_t_keeps B_t_keeps_e B_t_twisting t_toldCount t_current_n t_current_cells t_draft_n t_draft_cells t_keeps_n t_keeps_cells t_twisting_modulus t_twisting_values)) [1, 2] [0, 3, 4, 5, 6, 7, 8, 9, 10, 11, 12, 13, 14, 15] [0, 14, 15, 1, 2, 3, 4, 5, 6, 7, 8, 9, 10, 11, 12, 13] rfl rfl rfl rfl (by decide) (fun _ => rfl) rfl 1 6 rfl rfl rfl rfl hl.1 rfl (Nat.le_of_ble_eq_true rfl) dX10_times_111 (fun r111 u H locs h hP hD hS => ?_)
                    try dsimp only at h
                    have hP : va_P G vwCl (w_X10_times Y h_t B_t B_t_current B_t_draft B_t_keeps B_t_keeps_e B_t_twisting t_toldCount t_current_n t_current_cells t_draft_n t_draft_cells t_keeps_n t_keeps_cells t_twisting_modulus t_twisting_values) H := hP
                    have hD : va_D A (w_X10_times Y h_t B_t B_t_current B_t_draft B_t_keeps B_t_keeps_e B_t_twisting t_toldCount t_current_n t_current_cells t_draft_n t_draft_cells t_keeps_n t_keeps_cells t_twisting_modulus t_twisting_values) := hD
                    refine lv_imul hx hb dX10_times_114 ?_
                    refine lv_aload_n hx hb dX10_times_115 rfl (lv_at hl 1 rfl) ?_
                    refine lv_iload hx hb dX10_times_116 (lv_at hl 3 rfl) ?_
                    refine lv_iload_n hx hb dX10_times_118 rfl (lv_at hl 2 rfl) ?_
                    obtain ⟨hne, h⟩ := h
                    refine lv_irem hx hb dX10_times_119 hne ?_
                    refine lv_iload hx hb dX10_times_120 (lv_at hl 4 rfl) ?_
                    refine lv_iload_n hx hb dX10_times_122 rfl (lv_at hl 2 rfl) ?_
                    obtain ⟨hne, h⟩ := h
                    refine lv_irem hx hb dX10_times_123 hne ?_
                    refine mc_iV ⟨hx, hb, hml, hown, hts⟩ hK hE hA hP hD hS (c_X7_turned l G Y tF H.size (B_t_keeps 0) (B_t_keeps_e 0) (t_keeps_n 0) (t_keeps_cells 0) (x4 - x4 / x3 * x3) (x5 - x5 / x3 * x3) h) (cwV 2 hts gX10_times_X7_turned rfl rfl rfl (by decide +kernel) ⟨Nat.le_trans (by decide) hRf, Nat.le_trans (by decide) hRl⟩) (fun u => (w_X10_times Y h_t B_t B_t_current B_t_draft B_t_keeps B_t_keeps_e B_t_twisting t_toldCount t_current_n t_current_cells t_draft_n t_draft_cells t_keeps_n t_keeps_cells t_twisting_modulus t_twisting_values)) [6, 7] [0, 1, 2, 3, 4, 5, 8, 9, 10, 11, 12, 13, 14, 15] [0, 1, 2, 3, 4, 5, 14, 15, 6, 7, 8, 9, 10, 11, 12, 13] rfl rfl rfl rfl (by decide) (fun _ => rfl) rfl 6 6 rfl rfl rfl rfl hl.1 rfl (Nat.le_of_ble_eq_true rfl) dX10_times_124 (fun r124 u H locs h hP hD hS => ?_)
                    try dsimp only at h
                    have hP : va_P G vwCl (w_X10_times Y h_t B_t B_t_current B_t_draft B_t_keeps B_t_keeps_e B_t_twisting t_toldCount t_current_n t_current_cells t_draft_n t_draft_cells t_keeps_n t_keeps_cells t_twisting_modulus t_twisting_values) H := hP
                    have hD : va_D A (w_X10_times Y h_t B_t B_t_current B_t_draft B_t_keeps B_t_keeps_e B_t_twisting t_toldCount t_current_n t_current_cells t_draft_n t_draft_cells t_keeps_n t_keeps_cells t_twisting_modulus t_twisting_values) := hD
                    refine lv_iadd hx hb dX10_times_127 ?_
                    refine mc_vV ⟨hx, hb, hml, hown, hts⟩ hK hE hA hP hD hS (c_X7_put l G Y tF H.size (B_t 1) B_t_draft t_draft_n t_draft_cells x4 x5 ((x3 * r111) + r124) h) (cwV 3 hts gX10_times_X7_put rfl rfl rfl (by decide +kernel) ⟨Nat.le_trans (by decide) hRf, Nat.le_trans (by decide) hRl⟩) (fun u => (w_X10_times Y h_t B_t B_t_current B_t_draft B_t_keeps B_t_keeps_e B_t_twisting t_toldCount t_current_n t_current_cells t_draft_n u t_keeps_n t_keeps_cells t_twisting_modulus t_twisting_values)) [3, 4] [0, 1, 2, 5, 6, 7, 8, 9, 10, 11, 12, 13, 14, 15] [0, 1, 2, 14, 15, 3, 4, 5, 6, 7, 8, 9, 10, 11, 12, 13] rfl rfl rfl rfl (by decide) (fun _ => rfl) rfl 3 6 rfl rfl rfl rfl hl.1 rfl (Nat.le_of_ble_eq_true rfl) dX10_times_128 (fun u H locs h hP hD hS => ?_)
                    obtain ⟨t_draft_cells_128, rfl⟩ : ∃ z, z = u := ⟨_, rfl⟩
                    try dsimp only at h
                    have hP : va_P G vwCl (w_X10_times Y h_t B_t B_t_current B_t_draft B_t_keeps B_t_keeps_e B_t_twisting t_toldCount t_current_n t_current_cells t_draft_n t_draft_cells_128 t_keeps_n t_keeps_cells t_twisting_modulus t_twisting_values) H := hP
                    have hD : va_D A (w_X10_times Y h_t B_t B_t_current B_t_draft B_t_keeps B_t_keeps_e B_t_twisting t_toldCount t_current_n t_current_cells t_draft_n t_draft_cells_128 t_keeps_n t_keeps_cells t_twisting_modulus t_twisting_values) := hD
                    refine lv_iinc (v := (x5 + 1)) (lv' := [(5, .int (x5 + 1)), (0, .ref h_t), (2, .ref (B_t_keeps 0)), (3, .int x3), (4, .int x4)]) hx hb dX10_times_131 hl (k := 4) rfl rfl (by decide) rfl (fun ls hl => ?_)
                    refine lv_goto (tgt := 78) hx hb dX10_times_134 (by decide) ?_
                    exact rec78 (x5 + 1) t_draft_cells_128 H locs ls h hP hD hS (lv_sub hl [1, 2, 3, 4, 0] rfl)
              exact L78 x4 I78 m78 hB78 _ (0 : Int32) t_draft_cells H locs ls hI78 (Nat.lt_succ_self _) hP hD hS (lv_sub hl [1, 2, 3, 4, 0] rfl)
        exact L63 (t_keeps_n 0) t_current_n t_current_cells (t_current_n * (t_keeps_n 0)) t_twisting_values I63 m63 hB63 _ (0 : Int32) t_draft_cells H locs ls hI63 (Nat.lt_succ_self _) hP hD hS (lv_sub hl [3, 2, 1, 0] rfl)
      · have h := hf c9
        refine lv_iconst (v := -1) hx hb dX10_times_30 (by decide) ?_
        exact hret (-1 : Int32) t_current_n t_current_cells t_draft_n t_draft_cells t_twisting_values H locs ls _ hP hD hS h dX10_times_31
    · clear hj9
      refine W.eq (g2 := F0 m 21 ls [.ref (B_t_keeps 1), .int t_current_n]) rfl ?_
      refine va_getN (D := G) (ci := 6) (v := .int (t_keeps_n 1)) (C := RX7) (T := TX7) (N := 2) hx hb hts inX7 hown hK hP 8 rfl rfl 1 (by decide) (hE.nest args 0 _ rfl) (fun _ h9 => h9) rfl dX10_times_21 ?_
      refine lv_imul hx hb dX10_times_24 ?_
      refine lv_bipush (v := 8) hx hb dX10_times_25 (by decide) ?_
      obtain ⟨ht, hf⟩ := h
      refine lv_icmp_le (tgt := 32) hx hb dX10_times_27 (by decide) (fun c9 => ?_) (fun c9 => ?_)
      · have h := ht c9
        refine lv_aload_n hx hb dX10_times_32 rfl (lv_at hl 0 rfl) ?_
        refine va_get (D := G) (ci := 9) (v := .ref (B_t 3)) (C := RX10) (T := TX10) (N := 15) hx hb hts inX10 hown hK hP 0 rfl rfl 3 (by decide) hf24 (fun _ h9 => h9) rfl dX10_times_33 ?_
        refine lv_iload_n hx hb dX10_times_36 rfl (lv_at hl 1 rfl) ?_
        obtain ⟨hin, h⟩ := h
        refine va_aldq hx hb hK hP 5 2 rfl rfl hin dX10_times_37 ?_
        simp only [e8]
        clear hin
        refine W.eq (g2 := F0 m 38 ls [.ref (B_t_keeps 1)]) rfl ?_
        refine lv_astore_n (lv' := [(2, .ref (B_t_keeps 1)), (0, .ref h_t), (1, .int x1)]) hx hb dX10_times_38 rfl hl (by decide) rfl (fun ls hl => ?_)
        refine lv_aload_n hx hb dX10_times_39 rfl (lv_at hl 0 rfl) ?_
        refine va_getN (D := G) (ci := 6) (v := .int (t_keeps_n 1)) (C := RX7) (T := TX7) (N := 2) hx hb hts inX7 hown hK hP 8 rfl rfl 1 (by decide) (hE.nest args 0 _ rfl) (fun _ h9 => h9) rfl dX10_times_40 ?_
        refine lv_istore_n (lv' := [(3, .int (t_keeps_n 1)), (2, .ref (B_t_keeps 1)), (0, .ref h_t), (1, .int x1)]) hx hb dX10_times_43 rfl hl (by decide) rfl (fun ls hl => ?_)
        refine lv_aload_n hx hb dX10_times_44 rfl (lv_at hl 2 rfl) ?_
        refine va_get (D := G) (ci := 9) (v := .ref (B_t 1)) (C := RX10) (T := TX10) (N := 15) hx hb hts inX10 hown hK hP 0 rfl rfl 1 (by decide) hf18 (fun _ h9 => h9) rfl dX10_times_45 ?_
        refine lv_aload_n hx hb dX10_times_48 rfl (lv_at hl 2 rfl) ?_
        refine va_get (D := G) (ci := 9) (v := .ref (B_t 0)) (C := RX10) (T := TX10) (N := 15) hx hb hts inX10 hown hK hP 0 rfl rfl 0 (by decide) hf14 (fun _ h9 => h9) rfl dX10_times_49 ?_
        refine va_getN (D := G) (ci := 6) (v := .int t_current_n) (C := RX7) (T := TX7) (N := 2) hx hb hts inX7 hown hK hP 1 rfl rfl 1 (by decide) (hE.nest args 0 _ rfl) (fun _ h9 => h9) rfl dX10_times_52 ?_
        refine lv_iload_n hx hb dX10_times_55 rfl (lv_at hl 0 rfl) ?_
        refine lv_imul hx hb dX10_times_56 ?_
        refine va_putN (D := G) (ci := 6) (v := .int (t_current_n * (t_keeps_n 1))) (ty := .int) (C := RX7) (T := TX7) (N := 2) hx hb hts inX7 tyX7 tyX7_ok nmX7 hown hK hP hD hS 3 rfl rfl 1 (by decide) (hE.nest args 0 _ rfl) (fun _ h9 => h9) rfl (by decide +kernel) rfl rfl (Nat.le_of_ble_eq_true rfl) dX10_times_57 (fun H locs hP hD hS => ?_)
        have hP : va_P G vwCl (w_X10_times Y h_t B_t B_t_current B_t_draft B_t_keeps B_t_keeps_e B_t_twisting t_toldCount t_current_n t_current_cells (t_current_n * (t_keeps_n 1)) t_draft_cells t_keeps_n t_keeps_cells t_twisting_modulus t_twisting_values) H := hP
        have hD : va_D A (w_X10_times Y h_t B_t B_t_current B_t_draft B_t_keeps B_t_keeps_e B_t_twisting t_toldCount t_current_n t_current_cells (t_current_n * (t_keeps_n 1)) t_draft_cells t_keeps_n t_keeps_cells t_twisting_modulus t_twisting_values) := hD
        refine lv_iconst (v := 0) hx hb dX10_times_60 (by decide) ?_
        refine lv_istore (lv' := [(4, .int (0 : Int32)), (3, .int (t_keeps_n 1)), (2, .ref (B_t_keeps 1)), (0, .ref h_t), (1, .int x1)]) hx hb dX10_times_61 hl (by decide) rfl (fun ls hl => ?_)
        obtain ⟨I63, m63, hI63, hB63⟩ := h
        have L63 : ∀ (x3 : Int32) (t_current_n : Int32) (t_current_cells : Nat → Int32) (t_draft_n : Int32) (t_twisting_values : Nat → Int32) (I63 : Int32 → (Nat → Int32) → Prop) (m63 : Int32 → (Nat → Int32) → Nat), (∀ (x4 : Int32) (t_draft_cells : Nat → Int32), I63 x4 t_draft_cells → pX10_times_63 t_keeps_n t_keeps_cells K 1 x3 t_current_n t_current_cells t_draft_n t_twisting_values x4 t_draft_cells (fun x4' t_draft_cells' => I63 x4' t_draft_cells' ∧ m63 x4' t_draft_cells' < m63 x4 t_draft_cells)) → ∀ (n : Nat) (x4 : Int32) (t_draft_cells : Nat → Int32) (H : Heap) (locs : List Loc) (ls : Array Slot), I63 x4 t_draft_cells → m63 x4 t_draft_cells < n → va_P G vwCl (w_X10_times Y h_t B_t B_t_current B_t_draft B_t_keeps B_t_keeps_e B_t_twisting t_toldCount t_current_n t_current_cells t_draft_n t_draft_cells t_keeps_n t_keeps_cells t_twisting_modulus t_twisting_values) H → va_D A (w_X10_times Y h_t B_t B_t_current B_t_draft B_t_keeps B_t_keeps_e B_t_twisting t_toldCount t_current_n t_current_cells t_draft_n t_draft_cells t_keeps_n t_keeps_cells t_twisting_modulus t_twisting_values) → va_S A s.heap H locs → lv_has ls 6 [(0, .ref h_t), (2, .ref (B_t_keeps 1)), (3, .int x3), (4, .int x4)] → W p l e R s m args below meth c H locs 0 0 Q (F0 m 63 ls []) := by
          intro x3 t_current_n t_current_cells t_draft_n t_twisting_values I63 m63 hB63 n
          induction n with
          | zero => intro x4 t_draft_cells H locs ls _ hm; exact absurd hm (Nat.not_lt_zero _)
          | succ n ih =>
            intro x4 t_draft_cells H locs ls hI hm hP hD hS hl
            obtain ⟨R63, h, rec63⟩ : ∃ R63 : Int32 → (Nat → Int32) → Prop, pX10_times_63 t_keeps_n t_keeps_cells K 1 x3 t_current_n t_current_cells t_draft_n t_twisting_values x4 t_draft_cells R63 ∧ ∀ (x4 : Int32) (t_draft_cells : Nat → Int32) (H : Heap) (locs : List Loc) (ls : Array Slot), R63 x4 t_draft_cells → va_P G vwCl (w_X10_times Y h_t B_t B_t_current B_t_draft B_t_keeps B_t_keeps_e B_t_twisting t_toldCount t_current_n t_current_cells t_draft_n t_draft_cells t_keeps_n t_keeps_cells t_twisting_modulus t_twisting_values) H → va_D A (w_X10_times Y h_t B_t B_t_current B_t_draft B_t_keeps B_t_keeps_e B_t_twisting t_toldCount t_current_n t_current_cells t_draft_n t_draft_cells t_keeps_n t_keeps_cells t_twisting_modulus t_twisting_values) → va_S A s.heap H locs → lv_has ls 6 [(0, .ref h_t), (2, .ref (B_t_keeps 1)), (3, .int x3), (4, .int x4)] → W p l e R s m args below meth c H locs 0 0 Q (F0 m 63 ls []) := ⟨_, hB63 x4 t_draft_cells hI, fun x4 t_draft_cells H locs ls hh hP hD hS hl => ih x4 t_draft_cells H locs ls hh.1 (Nat.lt_of_lt_of_le hh.2 (Nat.le_of_lt_succ hm)) hP hD hS hl⟩
            refine lv_iload hx hb dX10_times_63 (lv_at hl 3 rfl) ?_
            refine lv_aload_n hx hb dX10_times_65 rfl (lv_at hl 0 rfl) ?_
            refine va_get (D := G) (ci := 9) (v := .ref (B_t 1)) (C := RX10) (T := TX10) (N := 15) hx hb hts inX10 hown hK hP 0 rfl rfl 1 (by decide) hf18 (fun _ h9 => h9) rfl dX10_times_66 ?_
            refine va_getN (D := G) (ci := 6) (v := .int t_draft_n) (C := RX7) (T := TX7) (N := 2) hx hb hts inX7 hown hK hP 3 rfl rfl 1 (by decide) (hE.nest args 0 _ rfl) (fun _ h9 => h9) rfl dX10_times_69 ?_
            obtain ⟨ht, hf⟩ := h
            refine lv_icmp_ge (tgt := 143) hx hb dX10_times_72 (by decide) (fun c9 => ?_) (fun c9 => ?_)
            · have h := ht c9
              refine lv_aload_n hx hb dX10_times_143 rfl (lv_at hl 0 rfl) ?_
              refine mc_iV ⟨hx, hb, hml, hown, hts⟩ hK hE hA hP hD hS (c_X10_adoptDraft l G Y tF H.size h_t B_t B_t_current B_t_draft B_t_twisting t_toldCount t_current_n t_current_cells t_draft_n t_draft_cells t_twisting_modulus t_twisting_values h) (cwV 0 hts gX10_times_X10_adoptDraft rfl rfl rfl (by decide +kernel) ⟨Nat.le_trans (by decide) hRf, Nat.le_trans (by decide) hRl⟩) (fun u => (w_X10_times Y h_t B_t B_t_current B_t_draft B_t_keeps B_t_keeps_e B_t_twisting t_toldCount u.1 u.2.1 t_draft_n t_draft_cells t_keeps_n t_keeps_cells t_twisting_modulus u.2.2)) [0, 1, 2, 3, 4, 14, 15] [5, 6, 7, 8, 9, 10, 11, 12, 13] [9, 10, 11, 12, 13, 0, 1, 2, 3, 4, 5, 6, 7, 8, 14, 15] rfl rfl rfl rfl (by decide) (fun _ => rfl) rfl 0 9 rfl rfl rfl rfl hl.1 rfl (Nat.le_of_ble_eq_true rfl) dX10_times_144 (fun r144 u H locs h hP hD hS => ?_)
              obtain ⟨t_current_n_144, t_current_cells_144, t_twisting_values_144⟩ := u
              try dsimp only at h
              have hP : va_P G vwCl (w_X10_times Y h_t B_t B_t_current B_t_draft B_t_keeps B_t_keeps_e B_t_twisting t_toldCount t_current_n_144 t_current_cells_144 t_draft_n t_draft_cells t_keeps_n t_keeps_cells t_twisting_modulus t_twisting_values_144) H := hP
              have hD : va_D A (w_X10_times Y h_t B_t B_t_current B_t_draft B_t_keeps B_t_keeps_e B_t_twisting t_toldCount t_current_n_144 t_current_cells_144 t_draft_n t_draft_cells t_keeps_n t_keeps_cells t_twisting_modulus t_twisting_values_144) := hD
              exact hret r144 t_current_n_144 t_current_cells_144 t_draft_n t_draft_cells t_twisting_values_144 H locs ls _ hP hD hS h dX10_times_147
            · have h := hf c9
              refine lv_iconst (v := 0) hx hb dX10_times_75 (by decide) ?_
              refine lv_istore (lv' := [(5, .int (0 : Int32)), (0, .ref h_t), (2, .ref (B_t_keeps 1)), (3, .int x3), (4, .int x4)]) hx hb dX10_times_76 hl (by decide) rfl (fun ls hl => ?_)
              obtain ⟨I78, m78, hI78, hB78⟩ := h
              have L78 : ∀ (x4 : Int32) (I78 : Int32 → (Nat → Int32) → Prop) (m78 : Int32 → (Nat → Int32) → Nat), (∀ (x5 : Int32) (t_draft_cells : Nat → Int32), I78 x5 t_draft_cells → pX10_times_78 t_keeps_n t_keeps_cells R63 K 1 x3 t_current_n t_current_cells t_draft_n t_twisting_values x4 x5 t_draft_cells (fun x5' t_draft_cells' => I78 x5' t_draft_cells' ∧ m78 x5' t_draft_cells' < m78 x5 t_draft_cells)) → ∀ (n : Nat) (x5 : Int32) (t_draft_cells : Nat → Int32) (H : Heap) (locs : List Loc) (ls : Array Slot), I78 x5 t_draft_cells → m78 x5 t_draft_cells < n → va_P G vwCl (w_X10_times Y h_t B_t B_t_current B_t_draft B_t_keeps B_t_keeps_e B_t_twisting t_toldCount t_current_n t_current_cells t_draft_n t_draft_cells t_keeps_n t_keeps_cells t_twisting_modulus t_twisting_values) H → va_D A (w_X10_times Y h_t B_t B_t_current B_t_draft B_t_keeps B_t_keeps_e B_t_twisting t_toldCount t_current_n t_current_cells t_draft_n t_draft_cells t_keeps_n t_keeps_cells t_twisting_modulus t_twisting_values) → va_S A s.heap H locs → lv_has ls 6 [(0, .ref h_t), (2, .ref (B_t_keeps 1)), (3, .int x3), (4, .int x4), (5, .int x5)] → W p l e R s m args below meth c H locs 0 0 Q (F0 m 78 ls []) := by
                intro x4 I78 m78 hB78 n
                induction n with
                | zero => intro x5 t_draft_cells H locs ls _ hm; exact absurd hm (Nat.not_lt_zero _)
                | succ n ih =>
                  intro x5 t_draft_cells H locs ls hI hm hP hD hS hl
                  obtain ⟨R78, h, rec78⟩ : ∃ R78 : Int32 → (Nat → Int32) → Prop, pX10_times_78 t_keeps_n t_keeps_cells R63 K 1 x3 t_current_n t_current_cells t_draft_n t_twisting_values x4 x5 t_draft_cells R78 ∧ ∀ (x5 : Int32) (t_draft_cells : Nat → Int32) (H : Heap) (locs : List Loc) (ls : Array Slot), R78 x5 t_draft_cells → va_P G vwCl (w_X10_times Y h_t B_t B_t_current B_t_draft B_t_keeps B_t_keeps_e B_t_twisting t_toldCount t_current_n t_current_cells t_draft_n t_draft_cells t_keeps_n t_keeps_cells t_twisting_modulus t_twisting_values) H → va_D A (w_X10_times Y h_t B_t B_t_current B_t_draft B_t_keeps B_t_keeps_e B_t_twisting t_toldCount t_current_n t_current_cells t_draft_n t_draft_cells t_keeps_n t_keeps_cells t_twisting_modulus t_twisting_values) → va_S A s.heap H locs → lv_has ls 6 [(0, .ref h_t), (2, .ref (B_t_keeps 1)), (3, .int x3), (4, .int x4), (5, .int x5)] → W p l e R s m args below meth c H locs 0 0 Q (F0 m 78 ls []) := ⟨_, hB78 x5 t_draft_cells hI, fun x5 t_draft_cells H locs ls hh hP hD hS hl => ih x5 t_draft_cells H locs ls hh.1 (Nat.lt_of_lt_of_le hh.2 (Nat.le_of_lt_succ hm)) hP hD hS hl⟩
                  refine lv_iload hx hb dX10_times_78 (lv_at hl 4 rfl) ?_
                  refine lv_aload_n hx hb dX10_times_80 rfl (lv_at hl 0 rfl) ?_
                  refine va_get (D := G) (ci := 9) (v := .ref (B_t 1)) (C := RX10) (T := TX10) (N := 15) hx hb hts inX10 hown hK hP 0 rfl rfl 1 (by decide) hf18 (fun _ h9 => h9) rfl dX10_times_81 ?_
                  refine va_getN (D := G) (ci := 6) (v := .int t_draft_n) (C := RX7) (T := TX7) (N := 2) hx hb hts inX7 hown hK hP 3 rfl rfl 1 (by decide) (hE.nest args 0 _ rfl) (fun _ h9 => h9) rfl dX10_times_84 ?_
                  obtain ⟨ht, hf⟩ := h
                  refine lv_icmp_ge (tgt := 137) hx hb dX10_times_87 (by decide) (fun c9 => ?_) (fun c9 => ?_)
                  · have h := ht c9
                    refine lv_iinc (v := (x4 + 1)) (lv' := [(4, .int (x4 + 1)), (0, .ref h_t), (2, .ref (B_t_keeps 1)), (3, .int x3), (5, .int x5)]) hx hb dX10_times_137 hl (k := 3) rfl rfl (by decide) rfl (fun ls hl => ?_)
                    refine lv_goto (tgt := 63) hx hb dX10_times_140 (by decide) ?_
                    exact rec63 (x4 + 1) t_draft_cells H locs ls h hP hD hS (lv_sub hl [1, 2, 3, 0] rfl)
                  · have h := hf c9
                    refine lv_aload_n hx hb dX10_times_90 rfl (lv_at hl 0 rfl) ?_
                    refine va_get (D := G) (ci := 9) (v := .ref (B_t 1)) (C := RX10) (T := TX10) (N := 15) hx hb hts inX10 hown hK hP 0 rfl rfl 1 (by decide) hf18 (fun _ h9 => h9) rfl dX10_times_91 ?_
                    refine lv_iload hx hb dX10_times_94 (lv_at hl 3 rfl) ?_
                    refine lv_iload hx hb dX10_times_96 (lv_at hl 4 rfl) ?_
                    refine lv_iload_n hx hb dX10_times_98 rfl (lv_at hl 2 rfl) ?_
                    refine lv_aload_n hx hb dX10_times_99 rfl (lv_at hl 0 rfl) ?_
                    refine va_get (D := G) (ci := 9) (v := .ref (B_t 0)) (C := RX10) (T := TX10) (N := 15) hx hb hts inX10 hown hK hP 0 rfl rfl 0 (by decide) hf14 (fun _ h9 => h9) rfl dX10_times_100 ?_
                    refine lv_iload hx hb dX10_times_103 (lv_at hl 3 rfl) ?_
                    refine lv_iload_n hx hb dX10_times_105 rfl (lv_at hl 2 rfl) ?_
                    obtain ⟨hne, h⟩ := h
                    refine lv_idiv hx hb dX10_times_106 hne ?_
                    refine lv_iload hx hb dX10_times_107 (lv_at hl 4 rfl) ?_
                    refine lv_iload_n hx hb dX10_times_109 rfl (lv_at hl 2 rfl) ?_
                    obtain ⟨hne, h⟩ := h
                    refine lv_idiv hx hb dX10_times_110 hne ?_
                    refine mc_iV ⟨hx, hb, hml, hown, hts⟩ hK hE hA hP hD hS (c_X7_turned l G Y tF H.size (B_t 0) B_t_current t_current_n t_current_cells (x4 / x3) (x5 / x3) h) (cwV 2 hts gX10_times_X7_turned rfl rfl rfl (by decide +kernel) ⟨Nat.le_trans (by decide) hRf, Nat.le_trans (by decide) hRl⟩) (fun u => (w_X10_times Y h_t B_t B_t_current B_t_draft B_t_keeps B_t_keeps_e B_t_twisting t_toldCount t_current_n t_current_cells t_draft_n t_draft_cells t_keeps_n t_keeps_cells t_twisting_modulus t_twisting_values)) [1, 2] [0, 3, 4, 5, 6, 7, 8, 9, 10, 11, 12, 13, 14, 15] [0, 14, 15, 1, 2, 3, 4, 5, 6, 7, 8, 9, 10, 11, 12, 13] rfl rfl rfl rfl (by decide) (fun _ => rfl) rfl 1 6 rfl rfl rfl rfl hl.1 rfl (Nat.le_of_ble_eq_true rfl) dX10_times_111 (fun r111 u H locs h hP hD hS => ?_)
                    try dsimp only at h
                    have hP : va_P G vwCl (w_X10_times Y h_t B_t B_t_current B_t_draft B_t_keeps B_t_keeps_e B_t_twisting t_toldCount t_current_n t_current_cells t_draft_n t_draft_cells t_keeps_n t_keeps_cells t_twisting_modulus t_twisting_values) H := hP
                    have hD : va_D A (w_X10_times Y h_t B_t B_t_current B_t_draft B_t_keeps B_t_keeps_e B_t_twisting t_toldCount t_current_n t_current_cells t_draft_n t_draft_cells t_keeps_n t_keeps_cells t_twisting_modulus t_twisting_values) := hD
                    refine lv_imul hx hb dX10_times_114 ?_
                    refine lv_aload_n hx hb dX10_times_115 rfl (lv_at hl 1 rfl) ?_
                    refine lv_iload hx hb dX10_times_116 (lv_at hl 3 rfl) ?_
                    refine lv_iload_n hx hb dX10_times_118 rfl (lv_at hl 2 rfl) ?_
                    obtain ⟨hne, h⟩ := h
                    refine lv_irem hx hb dX10_times_119 hne ?_
                    refine lv_iload hx hb dX10_times_120 (lv_at hl 4 rfl) ?_
                    refine lv_iload_n hx hb dX10_times_122 rfl (lv_at hl 2 rfl) ?_
                    obtain ⟨hne, h⟩ := h
                    refine lv_irem hx hb dX10_times_123 hne ?_
                    refine mc_iV ⟨hx, hb, hml, hown, hts⟩ hK hE hA hP hD hS (c_X7_turned l G Y tF H.size (B_t_keeps 1) (B_t_keeps_e 1) (t_keeps_n 1) (t_keeps_cells 1) (x4 - x4 / x3 * x3) (x5 - x5 / x3 * x3) h) (cwV 2 hts gX10_times_X7_turned rfl rfl rfl (by decide +kernel) ⟨Nat.le_trans (by decide) hRf, Nat.le_trans (by decide) hRl⟩) (fun u => (w_X10_times Y h_t B_t B_t_current B_t_draft B_t_keeps B_t_keeps_e B_t_twisting t_toldCount t_current_n t_current_cells t_draft_n t_draft_cells t_keeps_n t_keeps_cells t_twisting_modulus t_twisting_values)) [8, 9] [0, 1, 2, 3, 4, 5, 6, 7, 10, 11, 12, 13, 14, 15] [0, 1, 2, 3, 4, 5, 6, 7, 14, 15, 8, 9, 10, 11, 12, 13] rfl rfl rfl rfl (by decide) (fun _ => rfl) rfl 8 6 rfl rfl rfl rfl hl.1 rfl (Nat.le_of_ble_eq_true rfl) dX10_times_124 (fun r124 u H locs h hP hD hS => ?_)
                    try dsimp only at h
                    have hP : va_P G vwCl (w_X10_times Y h_t B_t B_t_current B_t_draft B_t_keeps B_t_keeps_e B_t_twisting t_toldCount t_current_n t_current_cells t_draft_n t_draft_cells t_keeps_n t_keeps_cells t_twisting_modulus t_twisting_values) H := hP
                    have hD : va_D A (w_X10_times Y h_t B_t B_t_current B_t_draft B_t_keeps B_t_keeps_e B_t_twisting t_toldCount t_current_n t_current_cells t_draft_n t_draft_cells t_keeps_n t_keeps_cells t_twisting_modulus t_twisting_values) := hD
                    refine lv_iadd hx hb dX10_times_127 ?_
                    refine mc_vV ⟨hx, hb, hml, hown, hts⟩ hK hE hA hP hD hS (c_X7_put l G Y tF H.size (B_t 1) B_t_draft t_draft_n t_draft_cells x4 x5 ((x3 * r111) + r124) h) (cwV 3 hts gX10_times_X7_put rfl rfl rfl (by decide +kernel) ⟨Nat.le_trans (by decide) hRf, Nat.le_trans (by decide) hRl⟩) (fun u => (w_X10_times Y h_t B_t B_t_current B_t_draft B_t_keeps B_t_keeps_e B_t_twisting t_toldCount t_current_n t_current_cells t_draft_n u t_keeps_n t_keeps_cells t_twisting_modulus t_twisting_values)) [3, 4] [0, 1, 2, 5, 6, 7, 8, 9, 10, 11, 12, 13, 14, 15] [0, 1, 2, 14, 15, 3, 4, 5, 6, 7, 8, 9, 10, 11, 12, 13] rfl rfl rfl rfl (by decide) (fun _ => rfl) rfl 3 6 rfl rfl rfl rfl hl.1 rfl (Nat.le_of_ble_eq_true rfl) dX10_times_128 (fun u H locs h hP hD hS => ?_)
                    obtain ⟨t_draft_cells_128, rfl⟩ : ∃ z, z = u := ⟨_, rfl⟩
                    try dsimp only at h
                    have hP : va_P G vwCl (w_X10_times Y h_t B_t B_t_current B_t_draft B_t_keeps B_t_keeps_e B_t_twisting t_toldCount t_current_n t_current_cells t_draft_n t_draft_cells_128 t_keeps_n t_keeps_cells t_twisting_modulus t_twisting_values) H := hP
                    have hD : va_D A (w_X10_times Y h_t B_t B_t_current B_t_draft B_t_keeps B_t_keeps_e B_t_twisting t_toldCount t_current_n t_current_cells t_draft_n t_draft_cells_128 t_keeps_n t_keeps_cells t_twisting_modulus t_twisting_values) := hD
                    refine lv_iinc (v := (x5 + 1)) (lv' := [(5, .int (x5 + 1)), (0, .ref h_t), (2, .ref (B_t_keeps 1)), (3, .int x3), (4, .int x4)]) hx hb dX10_times_131 hl (k := 4) rfl rfl (by decide) rfl (fun ls hl => ?_)
                    refine lv_goto (tgt := 78) hx hb dX10_times_134 (by decide) ?_
                    exact rec78 (x5 + 1) t_draft_cells_128 H locs ls h hP hD hS (lv_sub hl [1, 2, 3, 4, 0] rfl)
              exact L78 x4 I78 m78 hB78 _ (0 : Int32) t_draft_cells H locs ls hI78 (Nat.lt_succ_self _) hP hD hS (lv_sub hl [1, 2, 3, 4, 0] rfl)
        exact L63 (t_keeps_n 1) t_current_n t_current_cells (t_current_n * (t_keeps_n 1)) t_twisting_values I63 m63 hB63 _ (0 : Int32) t_draft_cells H locs ls hI63 (Nat.lt_succ_self _) hP hD hS (lv_sub hl [3, 2, 1, 0] rfl)
      · have h := hf c9
        refine lv_iconst (v := -1) hx hb dX10_times_30 (by decide) ?_
        exact hret (-1 : Int32) t_current_n t_current_cells t_draft_n t_draft_cells t_twisting_values H locs ls _ hP hD hS h dX10_times_31
    · clear hj9
      refine W.eq (g2 := F0 m 21 ls [.ref (B_t_keeps 2), .int t_current_n]) rfl ?_
      refine va_getN (D := G) (ci := 6) (v := .int (t_keeps_n 2)) (C := RX7) (T := TX7) (N := 2) hx hb hts inX7 hown hK hP 10 rfl rfl 1 (by decide) (hE.nest args 0 _ rfl) (fun _ h9 => h9) rfl dX10_times_21 ?_
      refine lv_imul hx hb dX10_times_24 ?_
      refine lv_bipush (v := 8) hx hb dX10_times_25 (by decide) ?_
      obtain ⟨ht, hf⟩ := h
      refine lv_icmp_le (tgt := 32) hx hb dX10_times_27 (by decide) (fun c9 => ?_) (fun c9 => ?_)
      · have h := ht c9
        refine lv_aload_n hx hb dX10_times_32 rfl (lv_at hl 0 rfl) ?_
        refine va_get (D := G) (ci := 9) (v := .ref (B_t 3)) (C := RX10) (T := TX10) (N := 15) hx hb hts inX10 hown hK hP 0 rfl rfl 3 (by decide) hf24 (fun _ h9 => h9) rfl dX10_times_33 ?_
        refine lv_iload_n hx hb dX10_times_36 rfl (lv_at hl 1 rfl) ?_
        obtain ⟨hin, h⟩ := h
        refine va_aldq hx hb hK hP 5 2 rfl rfl hin dX10_times_37 ?_
        simp only [e8]
        clear hin
        refine W.eq (g2 := F0 m 38 ls [.ref (B_t_keeps 2)]) rfl ?_
        refine lv_astore_n (lv' := [(2, .ref (B_t_keeps 2)), (0, .ref h_t), (1, .int x1)]) hx hb dX10_times_38 rfl hl (by decide) rfl (fun ls hl => ?_)
        refine lv_aload_n hx hb dX10_times_39 rfl (lv_at hl 0 rfl) ?_
        refine va_getN (D := G) (ci := 6) (v := .int (t_keeps_n 2)) (C := RX7) (T := TX7) (N := 2) hx hb hts inX7 hown hK hP 10 rfl rfl 1 (by decide) (hE.nest args 0 _ rfl) (fun _ h9 => h9) rfl dX10_times_40 ?_
        refine lv_istore_n (lv' := [(3, .int (t_keeps_n 2)), (2, .ref (B_t_keeps 2)), (0, .ref h_t), (1, .int x1)]) hx hb dX10_times_43 rfl hl (by decide) rfl (fun ls hl => ?_)
        refine lv_aload_n hx hb dX10_times_44 rfl (lv_at hl 2 rfl) ?_
        refine va_get (D := G) (ci := 9) (v := .ref (B_t 1)) (C := RX10) (T := TX10) (N := 15) hx hb hts inX10 hown hK hP 0 rfl rfl 1 (by decide) hf18 (fun _ h9 => h9) rfl dX10_times_45 ?_
        refine lv_aload_n hx hb dX10_times_48 rfl (lv_at hl 2 rfl) ?_
        refine va_get (D := G) (ci := 9) (v := .ref (B_t 0)) (C := RX10) (T := TX10) (N := 15) hx hb hts inX10 hown hK hP 0 rfl rfl 0 (by decide) hf14 (fun _ h9 => h9) rfl dX10_times_49 ?_
        refine va_getN (D := G) (ci := 6) (v := .int t_current_n) (C := RX7) (T := TX7) (N := 2) hx hb hts inX7 hown hK hP 1 rfl rfl 1 (by decide) (hE.nest args 0 _ rfl) (fun _ h9 => h9) rfl dX10_times_52 ?_
        refine lv_iload_n hx hb dX10_times_55 rfl (lv_at hl 0 rfl) ?_
        refine lv_imul hx hb dX10_times_56 ?_
        refine va_putN (D := G) (ci := 6) (v := .int (t_current_n * (t_keeps_n 2))) (ty := .int) (C := RX7) (T := TX7) (N := 2) hx hb hts inX7 tyX7 tyX7_ok nmX7 hown hK hP hD hS 3 rfl rfl 1 (by decide) (hE.nest args 0 _ rfl) (fun _ h9 => h9) rfl (by decide +kernel) rfl rfl (Nat.le_of_ble_eq_true rfl) dX10_times_57 (fun H locs hP hD hS => ?_)
        have hP : va_P G vwCl (w_X10_times Y h_t B_t B_t_current B_t_draft B_t_keeps B_t_keeps_e B_t_twisting t_toldCount t_current_n t_current_cells (t_current_n * (t_keeps_n 2)) t_draft_cells t_keeps_n t_keeps_cells t_twisting_modulus t_twisting_values) H := hP
        have hD : va_D A (w_X10_times Y h_t B_t B_t_current B_t_draft B_t_keeps B_t_keeps_e B_t_twisting t_toldCount t_current_n t_current_cells (t_current_n * (t_keeps_n 2)) t_draft_cells t_keeps_n t_keeps_cells t_twisting_modulus t_twisting_values) := hD
        refine lv_iconst (v := 0) hx hb dX10_times_60 (by decide) ?_
        refine lv_istore (lv' := [(4, .int (0 : Int32)), (3, .int (t_keeps_n 2)), (2, .ref (B_t_keeps 2)), (0, .ref h_t), (1, .int x1)]) hx hb dX10_times_61 hl (by decide) rfl (fun ls hl => ?_)
        obtain ⟨I63, m63, hI63, hB63⟩ := h
        have L63 : ∀ (x3 : Int32) (t_current_n : Int32) (t_current_cells : Nat → Int32) (t_draft_n : Int32) (t_twisting_values : Nat → Int32) (I63 : Int32 → (Nat → Int32) → Prop) (m63 : Int32 → (Nat → Int32) → Nat), (∀ (x4 : Int32) (t_draft_cells : Nat → Int32), I63 x4 t_draft_cells → pX10_times_63 t_keeps_n t_keeps_cells K 2 x3 t_current_n t_current_cells t_draft_n t_twisting_values x4 t_draft_cells (fun x4' t_draft_cells' => I63 x4' t_draft_cells' ∧ m63 x4' t_draft_cells' < m63 x4 t_draft_cells)) → ∀ (n : Nat) (x4 : Int32) (t_draft_cells : Nat → Int32) (H : Heap) (locs : List Loc) (ls : Array Slot), I63 x4 t_draft_cells → m63 x4 t_draft_cells < n → va_P G vwCl (w_X10_times Y h_t B_t B_t_current B_t_draft B_t_keeps B_t_keeps_e B_t_twisting t_toldCount t_current_n t_current_cells t_draft_n t_draft_cells t_keeps_n t_keeps_cells t_twisting_modulus t_twisting_values) H → va_D A (w_X10_times Y h_t B_t B_t_current B_t_draft B_t_keeps B_t_keeps_e B_t_twisting t_toldCount t_current_n t_current_cells t_draft_n t_draft_cells t_keeps_n t_keeps_cells t_twisting_modulus t_twisting_values) → va_S A s.heap H locs → lv_has ls 6 [(0, .ref h_t), (2, .ref (B_t_keeps 2)), (3, .int x3), (4, .int x4)] → W p l e R s m args below meth c H locs 0 0 Q (F0 m 63 ls []) := by
          intro x3 t_current_n t_current_cells t_draft_n t_twisting_values I63 m63 hB63 n
          induction n with
          | zero => intro x4 t_draft_cells H locs ls _ hm; exact absurd hm (Nat.not_lt_zero _)
          | succ n ih =>
            intro x4 t_draft_cells H locs ls hI hm hP hD hS hl
            obtain ⟨R63, h, rec63⟩ : ∃ R63 : Int32 → (Nat → Int32) → Prop, pX10_times_63 t_keeps_n t_keeps_cells K 2 x3 t_current_n t_current_cells t_draft_n t_twisting_values x4 t_draft_cells R63 ∧ ∀ (x4 : Int32) (t_draft_cells : Nat → Int32) (H : Heap) (locs : List Loc) (ls : Array Slot), R63 x4 t_draft_cells → va_P G vwCl (w_X10_times Y h_t B_t B_t_current B_t_draft B_t_keeps B_t_keeps_e B_t_twisting t_toldCount t_current_n t_current_cells t_draft_n t_draft_cells t_keeps_n t_keeps_cells t_twisting_modulus t_twisting_values) H → va_D A (w_X10_times Y h_t B_t B_t_current B_t_draft B_t_keeps B_t_keeps_e B_t_twisting t_toldCount t_current_n t_current_cells t_draft_n t_draft_cells t_keeps_n t_keeps_cells t_twisting_modulus t_twisting_values) → va_S A s.heap H locs → lv_has ls 6 [(0, .ref h_t), (2, .ref (B_t_keeps 2)), (3, .int x3), (4, .int x4)] → W p l e R s m args below meth c H locs 0 0 Q (F0 m 63 ls []) := ⟨_, hB63 x4 t_draft_cells hI, fun x4 t_draft_cells H locs ls hh hP hD hS hl => ih x4 t_draft_cells H locs ls hh.1 (Nat.lt_of_lt_of_le hh.2 (Nat.le_of_lt_succ hm)) hP hD hS hl⟩
            refine lv_iload hx hb dX10_times_63 (lv_at hl 3 rfl) ?_
            refine lv_aload_n hx hb dX10_times_65 rfl (lv_at hl 0 rfl) ?_
            refine va_get (D := G) (ci := 9) (v := .ref (B_t 1)) (C := RX10) (T := TX10) (N := 15) hx hb hts inX10 hown hK hP 0 rfl rfl 1 (by decide) hf18 (fun _ h9 => h9) rfl dX10_times_66 ?_
            refine va_getN (D := G) (ci := 6) (v := .int t_draft_n) (C := RX7) (T := TX7) (N := 2) hx hb hts inX7 hown hK hP 3 rfl rfl 1 (by decide) (hE.nest args 0 _ rfl) (fun _ h9 => h9) rfl dX10_times_69 ?_
            obtain ⟨ht, hf⟩ := h
            refine lv_icmp_ge (tgt := 143) hx hb dX10_times_72 (by decide) (fun c9 => ?_) (fun c9 => ?_)
            · have h := ht c9
              refine lv_aload_n hx hb dX10_times_143 rfl (lv_at hl 0 rfl) ?_
              refine mc_iV ⟨hx, hb, hml, hown, hts⟩ hK hE hA hP hD hS (c_X10_adoptDraft l G Y tF H.size h_t B_t B_t_current B_t_draft B_t_twisting t_toldCount t_current_n t_current_cells t_draft_n t_draft_cells t_twisting_modulus t_twisting_values h) (cwV 0 hts gX10_times_X10_adoptDraft rfl rfl rfl (by decide +kernel) ⟨Nat.le_trans (by decide) hRf, Nat.le_trans (by decide) hRl⟩) (fun u => (w_X10_times Y h_t B_t B_t_current B_t_draft B_t_keeps B_t_keeps_e B_t_twisting t_toldCount u.1 u.2.1 t_draft_n t_draft_cells t_keeps_n t_keeps_cells t_twisting_modulus u.2.2)) [0, 1, 2, 3, 4, 14, 15] [5, 6, 7, 8, 9, 10, 11, 12, 13] [9, 10, 11, 12, 13, 0, 1, 2, 3, 4, 5, 6, 7, 8, 14, 15] rfl rfl rfl rfl (by decide) (fun _ => rfl) rfl 0 9 rfl rfl rfl rfl hl.1 rfl (Nat.le_of_ble_eq_true rfl) dX10_times_144 (fun r144 u H locs h hP hD hS => ?_)
              obtain ⟨t_current_n_144, t_current_cells_144, t_twisting_values_144⟩ := u
              try dsimp only at h
              have hP : va_P G vwCl (w_X10_times Y h_t B_t B_t_current B_t_draft B_t_keeps B_t_keeps_e B_t_twisting t_toldCount t_current_n_144 t_current_cells_144 t_draft_n t_draft_cells t_keeps_n t_keeps_cells t_twisting_modulus t_twisting_values_144) H := hP
              have hD : va_D A (w_X10_times Y h_t B_t B_t_current B_t_draft B_t_keeps B_t_keeps_e B_t_twisting t_toldCount t_current_n_144 t_current_cells_144 t_draft_n t_draft_cells t_keeps_n t_keeps_cells t_twisting_modulus t_twisting_values_144) := hD
              exact hret r144 t_current_n_144 t_current_cells_144 t_draft_n t_draft_cells t_twisting_values_144 H locs ls _ hP hD hS h dX10_times_147
            · have h := hf c9
              refine lv_iconst (v := 0) hx hb dX10_times_75 (by decide) ?_
              refine lv_istore (lv' := [(5, .int (0 : Int32)), (0, .ref h_t), (2, .ref (B_t_keeps 2)), (3, .int x3), (4, .int x4)]) hx hb dX10_times_76 hl (by decide) rfl (fun ls hl => ?_)
              obtain ⟨I78, m78, hI78, hB78⟩ := h
              have L78 : ∀ (x4 : Int32) (I78 : Int32 → (Nat → Int32) → Prop) (m78 : Int32 → (Nat → Int32) → Nat), (∀ (x5 : Int32) (t_draft_cells : Nat → Int32), I78 x5 t_draft_cells → pX10_times_78 t_keeps_n t_keeps_cells R63 K 2 x3 t_current_n t_current_cells t_draft_n t_twisting_values x4 x5 t_draft_cells (fun x5' t_draft_cells' => I78 x5' t_draft_cells' ∧ m78 x5' t_draft_cells' < m78 x5 t_draft_cells)) → ∀ (n : Nat) (x5 : Int32) (t_draft_cells : Nat → Int32) (H : Heap) (locs : List Loc) (ls : Array Slot), I78 x5 t_draft_cells → m78 x5 t_draft_cells < n → va_P G vwCl (w_X10_times Y h_t B_t B_t_current B_t_draft B_t_keeps B_t_keeps_e B_t_twisting t_toldCount t_current_n t_current_cells t_draft_n t_draft_cells t_keeps_n t_keeps_cells t_twisting_modulus t_twisting_values) H → va_D A (w_X10_times Y h_t B_t B_t_current B_t_draft B_t_keeps B_t_keeps_e B_t_twisting t_toldCount t_current_n t_current_cells t_draft_n t_draft_cells t_keeps_n t_keeps_cells t_twisting_modulus t_twisting_values) → va_S A s.heap H locs → lv_has ls 6 [(0, .ref h_t), (2, .ref (B_t_keeps 2)), (3, .int x3), (4, .int x4), (5, .int x5)] → W p l e R s m args below meth c H locs 0 0 Q (F0 m 78 ls []) := by
                intro x4 I78 m78 hB78 n
                induction n with
                | zero => intro x5 t_draft_cells H locs ls _ hm; exact absurd hm (Nat.not_lt_zero _)
                | succ n ih =>
                  intro x5 t_draft_cells H locs ls hI hm hP hD hS hl
                  obtain ⟨R78, h, rec78⟩ : ∃ R78 : Int32 → (Nat → Int32) → Prop, pX10_times_78 t_keeps_n t_keeps_cells R63 K 2 x3 t_current_n t_current_cells t_draft_n t_twisting_values x4 x5 t_draft_cells R78 ∧ ∀ (x5 : Int32) (t_draft_cells : Nat → Int32) (H : Heap) (locs : List Loc) (ls : Array Slot), R78 x5 t_draft_cells → va_P G vwCl (w_X10_times Y h_t B_t B_t_current B_t_draft B_t_keeps B_t_keeps_e B_t_twisting t_toldCount t_current_n t_current_cells t_draft_n t_draft_cells t_keeps_n t_keeps_cells t_twisting_modulus t_twisting_values) H → va_D A (w_X10_times Y h_t B_t B_t_current B_t_draft B_t_keeps B_t_keeps_e B_t_twisting t_toldCount t_current_n t_current_cells t_draft_n t_draft_cells t_keeps_n t_keeps_cells t_twisting_modulus t_twisting_values) → va_S A s.heap H locs → lv_has ls 6 [(0, .ref h_t), (2, .ref (B_t_keeps 2)), (3, .int x3), (4, .int x4), (5, .int x5)] → W p l e R s m args below meth c H locs 0 0 Q (F0 m 78 ls []) := ⟨_, hB78 x5 t_draft_cells hI, fun x5 t_draft_cells H locs ls hh hP hD hS hl => ih x5 t_draft_cells H locs ls hh.1 (Nat.lt_of_lt_of_le hh.2 (Nat.le_of_lt_succ hm)) hP hD hS hl⟩
                  refine lv_iload hx hb dX10_times_78 (lv_at hl 4 rfl) ?_
                  refine lv_aload_n hx hb dX10_times_80 rfl (lv_at hl 0 rfl) ?_
                  refine va_get (D := G) (ci := 9) (v := .ref (B_t 1)) (C := RX10) (T := TX10) (N := 15) hx hb hts inX10 hown hK hP 0 rfl rfl 1 (by decide) hf18 (fun _ h9 => h9) rfl dX10_times_81 ?_
                  refine va_getN (D := G) (ci := 6) (v := .int t_draft_n) (C := RX7) (T := TX7) (N := 2) hx hb hts inX7 hown hK hP 3 rfl rfl 1 (by decide) (hE.nest args 0 _ rfl) (fun _ h9 => h9) rfl dX10_times_84 ?_
                  obtain ⟨ht, hf⟩ := h
                  refine lv_icmp_ge (tgt := 137) hx hb dX10_times_87 (by decide) (fun c9 => ?_) (fun c9 => ?_)
                  · have h := ht c9
                    refine lv_iinc (v := (x4 + 1)) (lv' := [(4, .int (x4 + 1)), (0, .ref h_t), (2, .ref (B_t_keeps 2)), (3, .int x3), (5, .int x5)]) hx hb dX10_times_137 hl (k := 3) rfl rfl (by decide) rfl (fun ls hl => ?_)
                    refine lv_goto (tgt := 63) hx hb dX10_times_140 (by decide) ?_
                    exact rec63 (x4 + 1) t_draft_cells H locs ls h hP hD hS (lv_sub hl [1, 2, 3, 0] rfl)
                  · have h := hf c9
                    refine lv_aload_n hx hb dX10_times_90 rfl (lv_at hl 0 rfl) ?_
                    refine va_get (D := G) (ci := 9) (v := .ref (B_t 1)) (C := RX10) (T := TX10) (N := 15) hx hb hts inX10 hown hK hP 0 rfl rfl 1 (by decide) hf18 (fun _ h9 => h9) rfl dX10_times_91 ?_
                    refine lv_iload hx hb dX10_times_94 (lv_at hl 3 rfl) ?_
                    refine lv_iload hx hb dX10_times_96 (lv_at hl 4 rfl) ?_
                    refine lv_iload_n hx hb dX10_times_98 rfl (lv_at hl 2 rfl) ?_
                    refine lv_aload_n hx hb dX10_times_99 rfl (lv_at hl 0 rfl) ?_
                    refine va_get (D := G) (ci := 9) (v := .ref (B_t 0)) (C := RX10) (T := TX10) (N := 15) hx hb hts inX10 hown hK hP 0 rfl rfl 0 (by decide) hf14 (fun _ h9 => h9) rfl dX10_times_100 ?_
                    refine lv_iload hx hb dX10_times_103 (lv_at hl 3 rfl) ?_
                    refine lv_iload_n hx hb dX10_times_105 rfl (lv_at hl 2 rfl) ?_
                    obtain ⟨hne, h⟩ := h
                    refine lv_idiv hx hb dX10_times_106 hne ?_
                    refine lv_iload hx hb dX10_times_107 (lv_at hl 4 rfl) ?_
                    refine lv_iload_n hx hb dX10_times_109 rfl (lv_at hl 2 rfl) ?_
                    obtain ⟨hne, h⟩ := h
                    refine lv_idiv hx hb dX10_times_110 hne ?_
                    refine mc_iV ⟨hx, hb, hml, hown, hts⟩ hK hE hA hP hD hS (c_X7_turned l G Y tF H.size (B_t 0) B_t_current t_current_n t_current_cells (x4 / x3) (x5 / x3) h) (cwV 2 hts gX10_times_X7_turned rfl rfl rfl (by decide +kernel) ⟨Nat.le_trans (by decide) hRf, Nat.le_trans (by decide) hRl⟩) (fun u => (w_X10_times Y h_t B_t B_t_current B_t_draft B_t_keeps B_t_keeps_e B_t_twisting t_toldCount t_current_n t_current_cells t_draft_n t_draft_cells t_keeps_n t_keeps_cells t_twisting_modulus t_twisting_values)) [1, 2] [0, 3, 4, 5, 6, 7, 8, 9, 10, 11, 12, 13, 14, 15] [0, 14, 15, 1, 2, 3, 4, 5, 6, 7, 8, 9, 10, 11, 12, 13] rfl rfl rfl rfl (by decide) (fun _ => rfl) rfl 1 6 rfl rfl rfl rfl hl.1 rfl (Nat.le_of_ble_eq_true rfl) dX10_times_111 (fun r111 u H locs h hP hD hS => ?_)
                    try dsimp only at h
                    have hP : va_P G vwCl (w_X10_times Y h_t B_t B_t_current B_t_draft B_t_keeps B_t_keeps_e B_t_twisting t_toldCount t_current_n t_current_cells t_draft_n t_draft_cells t_keeps_n t_keeps_cells t_twisting_modulus t_twisting_values) H := hP
                    have hD : va_D A (w_X10_times Y h_t B_t B_t_current B_t_draft B_t_keeps B_t_keeps_e B_t_twisting t_toldCount t_current_n t_current_cells t_draft_n t_draft_cells t_keeps_n t_keeps_cells t_twisting_modulus t_twisting_values) := hD
                    refine lv_imul hx hb dX10_times_114 ?_
                    refine lv_aload_n hx hb dX10_times_115 rfl (lv_at hl 1 rfl) ?_
                    refine lv_iload hx hb dX10_times_116 (lv_at hl 3 rfl) ?_
                    refine lv_iload_n hx hb dX10_times_118 rfl (lv_at hl 2 rfl) ?_
                    obtain ⟨hne, h⟩ := h
                    refine lv_irem hx hb dX10_times_119 hne ?_
                    refine lv_iload hx hb dX10_times_120 (lv_at hl 4 rfl) ?_
                    refine lv_iload_n hx hb dX10_times_122 rfl (lv_at hl 2 rfl) ?_
                    obtain ⟨hne, h⟩ := h
                    refine lv_irem hx hb dX10_times_123 hne ?_
                    refine mc_iV ⟨hx, hb, hml, hown, hts⟩ hK hE hA hP hD hS (c_X7_turned l G Y tF H.size (B_t_keeps 2) (B_t_keeps_e 2) (t_keeps_n 2) (t_keeps_cells 2) (x4 - x4 / x3 * x3) (x5 - x5 / x3 * x3) h) (cwV 2 hts gX10_times_X7_turned rfl rfl rfl (by decide +kernel) ⟨Nat.le_trans (by decide) hRf, Nat.le_trans (by decide) hRl⟩) (fun u => (w_X10_times Y h_t B_t B_t_current B_t_draft B_t_keeps B_t_keeps_e B_t_twisting t_toldCount t_current_n t_current_cells t_draft_n t_draft_cells t_keeps_n t_keeps_cells t_twisting_modulus t_twisting_values)) [10, 11] [0, 1, 2, 3, 4, 5, 6, 7, 8, 9, 12, 13, 14, 15] [0, 1, 2, 3, 4, 5, 6, 7, 8, 9, 14, 15, 10, 11, 12, 13] rfl rfl rfl rfl (by decide) (fun _ => rfl) rfl 10 6 rfl rfl rfl rfl hl.1 rfl (Nat.le_of_ble_eq_true rfl) dX10_times_124 (fun r124 u H locs h hP hD hS => ?_)
                    try dsimp only at h
                    have hP : va_P G vwCl (w_X10_times Y h_t B_t B_t_current B_t_draft B_t_keeps B_t_keeps_e B_t_twisting t_toldCount t_current_n t_current_cells t_draft_n t_draft_cells t_keeps_n t_keeps_cells t_twisting_modulus t_twisting_values) H := hP
                    have hD : va_D A (w_X10_times Y h_t B_t B_t_current B_t_draft B_t_keeps B_t_keeps_e B_t_twisting t_toldCount t_current_n t_current_cells t_draft_n t_draft_cells t_keeps_n t_keeps_cells t_twisting_modulus t_twisting_values) := hD
                    refine lv_iadd hx hb dX10_times_127 ?_
                    refine mc_vV ⟨hx, hb, hml, hown, hts⟩ hK hE hA hP hD hS (c_X7_put l G Y tF H.size (B_t 1) B_t_draft t_draft_n t_draft_cells x4 x5 ((x3 * r111) + r124) h) (cwV 3 hts gX10_times_X7_put rfl rfl rfl (by decide +kernel) ⟨Nat.le_trans (by decide) hRf, Nat.le_trans (by decide) hRl⟩) (fun u => (w_X10_times Y h_t B_t B_t_current B_t_draft B_t_keeps B_t_keeps_e B_t_twisting t_toldCount t_current_n t_current_cells t_draft_n u t_keeps_n t_keeps_cells t_twisting_modulus t_twisting_values)) [3, 4] [0, 1, 2, 5, 6, 7, 8, 9, 10, 11, 12, 13, 14, 15] [0, 1, 2, 14, 15, 3, 4, 5, 6, 7, 8, 9, 10, 11, 12, 13] rfl rfl rfl rfl (by decide) (fun _ => rfl) rfl 3 6 rfl rfl rfl rfl hl.1 rfl (Nat.le_of_ble_eq_true rfl) dX10_times_128 (fun u H locs h hP hD hS => ?_)
                    obtain ⟨t_draft_cells_128, rfl⟩ : ∃ z, z = u := ⟨_, rfl⟩
                    try dsimp only at h
                    have hP : va_P G vwCl (w_X10_times Y h_t B_t B_t_current B_t_draft B_t_keeps B_t_keeps_e B_t_twisting t_toldCount t_current_n t_current_cells t_draft_n t_draft_cells_128 t_keeps_n t_keeps_cells t_twisting_modulus t_twisting_values) H := hP
                    have hD : va_D A (w_X10_times Y h_t B_t B_t_current B_t_draft B_t_keeps B_t_keeps_e B_t_twisting t_toldCount t_current_n t_current_cells t_draft_n t_draft_cells_128 t_keeps_n t_keeps_cells t_twisting_modulus t_twisting_values) := hD
                    refine lv_iinc (v := (x5 + 1)) (lv' := [(5, .int (x5 + 1)), (0, .ref h_t), (2, .ref (B_t_keeps 2)), (3, .int x3), (4, .int x4)]) hx hb dX10_times_131 hl (k := 4) rfl rfl (by decide) rfl (fun ls hl => ?_)
                    refine lv_goto (tgt := 78) hx hb dX10_times_134 (by decide) ?_
                    exact rec78 (x5 + 1) t_draft_cells_128 H locs ls h hP hD hS (lv_sub hl [1, 2, 3, 4, 0] rfl)
              exact L78 x4 I78 m78 hB78 _ (0 : Int32) t_draft_cells H locs ls hI78 (Nat.lt_succ_self _) hP hD hS (lv_sub hl [1, 2, 3, 4, 0] rfl)
        exact L63 (t_keeps_n 2) t_current_n t_current_cells (t_current_n * (t_keeps_n 2)) t_twisting_values I63 m63 hB63 _ (0 : Int32) t_draft_cells H locs ls hI63 (Nat.lt_succ_self _) hP hD hS (lv_sub hl [3, 2, 1, 0] rfl)
      · have h := hf c9
        refine lv_iconst (v := -1) hx hb dX10_times_30 (by decide) ?_
        exact hret (-1 : Int32) t_current_n t_current_cells t_draft_n t_draft_cells t_twisting_values H locs ls _ hP hD hS h dX10_times_31
    · clear hj9
      refine W.eq (g2 := F0 m 21 ls [.ref (B_t_keeps 3), .int t_current_n]) rfl ?_
      refine va_getN (D := G) (ci := 6) (v := .int (t_keeps_n 3)) (C := RX7) (T := TX7) (N := 2) hx hb hts inX7 hown hK hP 12 rfl rfl 1 (by decide) (hE.nest args 0 _ rfl) (fun _ h9 => h9) rfl dX10_times_21 ?_
      refine lv_imul hx hb dX10_times_24 ?_
      refine lv_bipush (v := 8) hx hb dX10_times_25 (by decide) ?_
      obtain ⟨ht, hf⟩ := h
      refine lv_icmp_le (tgt := 32) hx hb dX10_times_27 (by decide) (fun c9 => ?_) (fun c9 => ?_)
      · have h := ht c9
        refine lv_aload_n hx hb dX10_times_32 rfl (lv_at hl 0 rfl) ?_
        refine va_get (D := G) (ci := 9) (v := .ref (B_t 3)) (C := RX10) (T := TX10) (N := 15) hx hb hts inX10 hown hK hP 0 rfl rfl 3 (by decide) hf24 (fun _ h9 => h9) rfl dX10_times_33 ?_
        refine lv_iload_n hx hb dX10_times_36 rfl (lv_at hl 1 rfl) ?_
        obtain ⟨hin, h⟩ := h
        refine va_aldq hx hb hK hP 5 2 rfl rfl hin dX10_times_37 ?_
        simp only [e8]
        clear hin
        refine W.eq (g2 := F0 m 38 ls [.ref (B_t_keeps 3)]) rfl ?_
        refine lv_astore_n (lv' := [(2, .ref (B_t_keeps 3)), (0, .ref h_t), (1, .int x1)]) hx hb dX10_times_38 rfl hl (by decide) rfl (fun ls hl => ?_)
        refine lv_aload_n hx hb dX10_times_39 rfl (lv_at hl 0 rfl) ?_
        refine va_getN (D := G) (ci := 6) (v := .int (t_keeps_n 3)) (C := RX7) (T := TX7) (N := 2) hx hb hts inX7 hown hK hP 12 rfl rfl 1 (by decide) (hE.nest args 0 _ rfl) (fun _ h9 => h9) rfl dX10_times_40 ?_
        refine lv_istore_n (lv' := [(3, .int (t_keeps_n 3)), (2, .ref (B_t_keeps 3)), (0, .ref h_t), (1, .int x1)]) hx hb dX10_times_43 rfl hl (by decide) rfl (fun ls hl => ?_)
        refine lv_aload_n hx hb dX10_times_44 rfl (lv_at hl 2 rfl) ?_
        refine va_get (D := G) (ci := 9) (v := .ref (B_t 1)) (C := RX10) (T := TX10) (N := 15) hx hb hts inX10 hown hK hP 0 rfl rfl 1 (by decide) hf18 (fun _ h9 => h9) rfl dX10_times_45 ?_
        refine lv_aload_n hx hb dX10_times_48 rfl (lv_at hl 2 rfl) ?_
        refine va_get (D := G) (ci := 9) (v := .ref (B_t 0)) (C := RX10) (T := TX10) (N := 15) hx hb hts inX10 hown hK hP 0 rfl rfl 0 (by decide) hf14 (fun _ h9 => h9) rfl dX10_times_49 ?_
        refine va_getN (D := G) (ci := 6) (v := .int t_current_n) (C := RX7) (T := TX7) (N := 2) hx hb hts inX7 hown hK hP 1 rfl rfl 1 (by decide) (hE.nest args 0 _ rfl) (fun _ h9 => h9) rfl dX10_times_52 ?_
        refine lv_iload_n hx hb dX10_times_55 rfl (lv_at hl 0 rfl) ?_
        refine lv_imul hx hb dX10_times_56 ?_
        refine va_putN (D := G) (ci := 6) (v := .int (t_current_n * (t_keeps_n 3))) (ty := .int) (C := RX7) (T := TX7) (N := 2) hx hb hts inX7 tyX7 tyX7_ok nmX7 hown hK hP hD hS 3 rfl rfl 1 (by decide) (hE.nest args 0 _ rfl) (fun _ h9 => h9) rfl (by decide +kernel) rfl rfl (Nat.le_of_ble_eq_true rfl) dX10_times_57 (fun H locs hP hD hS => ?_)
        have hP : va_P G vwCl (w_X10_times Y h_t B_t B_t_current B_t_draft B_t_keeps B_t_keeps_e B_t_twisting t_toldCount t_current_n t_current_cells (t_current_n * (t_keeps_n 3)) t_draft_cells t_keeps_n t_keeps_cells t_twisting_modulus t_twisting_values) H := hP
        have hD : va_D A (w_X10_times Y h_t B_t B_t_current B_t_draft B_t_keeps B_t_keeps_e B_t_twisting t_toldCount t_current_n t_current_cells (t_current_n * (t_keeps_n 3)) t_draft_cells t_keeps_n t_keeps_cells t_twisting_modulus t_twisting_values) := hD
        refine lv_iconst (v := 0) hx hb dX10_times_60 (by decide) ?_
        refine lv_istore (lv' := [(4, .int (0 : Int32)), (3, .int (t_keeps_n 3)), (2, .ref (B_t_keeps 3)), (0, .ref h_t), (1, .int x1)]) hx hb dX10_times_61 hl (by decide) rfl (fun ls hl => ?_)
        obtain ⟨I63, m63, hI63, hB63⟩ := h
        have L63 : ∀ (x3 : Int32) (t_current_n : Int32) (t_current_cells : Nat → Int32) (t_draft_n : Int32) (t_twisting_values : Nat → Int32) (I63 : Int32 → (Nat → Int32) → Prop) (m63 : Int32 → (Nat → Int32) → Nat), (∀ (x4 : Int32) (t_draft_cells : Nat → Int32), I63 x4 t_draft_cells → pX10_times_63 t_keeps_n t_keeps_cells K 3 x3 t_current_n t_current_cells t_draft_n t_twisting_values x4 t_draft_cells (fun x4' t_draft_cells' => I63 x4' t_draft_cells' ∧ m63 x4' t_draft_cells' < m63 x4 t_draft_cells)) → ∀ (n : Nat) (x4 : Int32) (t_draft_cells : Nat → Int32) (H : Heap) (locs : List Loc) (ls : Array Slot), I63 x4 t_draft_cells → m63 x4 t_draft_cells < n → va_P G vwCl (w_X10_times Y h_t B_t B_t_current B_t_draft B_t_keeps B_t_keeps_e B_t_twisting t_toldCount t_current_n t_current_cells t_draft_n t_draft_cells t_keeps_n t_keeps_cells t_twisting_modulus t_twisting_values) H → va_D A (w_X10_times Y h_t B_t B_t_current B_t_draft B_t_keeps B_t_keeps_e B_t_twisting t_toldCount t_current_n t_current_cells t_draft_n t_draft_cells t_keeps_n t_keeps_cells t_twisting_modulus t_twisting_values) → va_S A s.heap H locs → lv_has ls 6 [(0, .ref h_t), (2, .ref (B_t_keeps 3)), (3, .int x3), (4, .int x4)] → W p l e R s m args below meth c H locs 0 0 Q (F0 m 63 ls []) := by
          intro x3 t_current_n t_current_cells t_draft_n t_twisting_values I63 m63 hB63 n
          induction n with
          | zero => intro x4 t_draft_cells H locs ls _ hm; exact absurd hm (Nat.not_lt_zero _)
          | succ n ih =>
            intro x4 t_draft_cells H locs ls hI hm hP hD hS hl
            obtain ⟨R63, h, rec63⟩ : ∃ R63 : Int32 → (Nat → Int32) → Prop, pX10_times_63 t_keeps_n t_keeps_cells K 3 x3 t_current_n t_current_cells t_draft_n t_twisting_values x4 t_draft_cells R63 ∧ ∀ (x4 : Int32) (t_draft_cells : Nat → Int32) (H : Heap) (locs : List Loc) (ls : Array Slot), R63 x4 t_draft_cells → va_P G vwCl (w_X10_times Y h_t B_t B_t_current B_t_draft B_t_keeps B_t_keeps_e B_t_twisting t_toldCount t_current_n t_current_cells t_draft_n t_draft_cells t_keeps_n t_keeps_cells t_twisting_modulus t_twisting_values) H → va_D A (w_X10_times Y h_t B_t B_t_current B_t_draft B_t_keeps B_t_keeps_e B_t_twisting t_toldCount t_current_n t_current_cells t_draft_n t_draft_cells t_keeps_n t_keeps_cells t_twisting_modulus t_twisting_values) → va_S A s.heap H locs → lv_has ls 6 [(0, .ref h_t), (2, .ref (B_t_keeps 3)), (3, .int x3), (4, .int x4)] → W p l e R s m args below meth c H locs 0 0 Q (F0 m 63 ls []) := ⟨_, hB63 x4 t_draft_cells hI, fun x4 t_draft_cells H locs ls hh hP hD hS hl => ih x4 t_draft_cells H locs ls hh.1 (Nat.lt_of_lt_of_le hh.2 (Nat.le_of_lt_succ hm)) hP hD hS hl⟩
            refine lv_iload hx hb dX10_times_63 (lv_at hl 3 rfl) ?_
            refine lv_aload_n hx hb dX10_times_65 rfl (lv_at hl 0 rfl) ?_
            refine va_get (D := G) (ci := 9) (v := .ref (B_t 1)) (C := RX10) (T := TX10) (N := 15) hx hb hts inX10 hown hK hP 0 rfl rfl 1 (by decide) hf18 (fun _ h9 => h9) rfl dX10_times_66 ?_
            refine va_getN (D := G) (ci := 6) (v := .int t_draft_n) (C := RX7) (T := TX7) (N := 2) hx hb hts inX7 hown hK hP 3 rfl rfl 1 (by decide) (hE.nest args 0 _ rfl) (fun _ h9 => h9) rfl dX10_times_69 ?_
            obtain ⟨ht, hf⟩ := h
            refine lv_icmp_ge (tgt := 143) hx hb dX10_times_72 (by decide) (fun c9 => ?_) (fun c9 => ?_)
            · have h := ht c9
              refine lv_aload_n hx hb dX10_times_143 rfl (lv_at hl 0 rfl) ?_
              refine mc_iV ⟨hx, hb, hml, hown, hts⟩ hK hE hA hP hD hS (c_X10_adoptDraft l G Y tF H.size h_t B_t B_t_current B_t_draft B_t_twisting t_toldCount t_current_n t_current_cells t_draft_n t_draft_cells t_twisting_modulus t_twisting_values h) (cwV 0 hts gX10_times_X10_adoptDraft rfl rfl rfl (by decide +kernel) ⟨Nat.le_trans (by decide) hRf, Nat.le_trans (by decide) hRl⟩) (fun u => (w_X10_times Y h_t B_t B_t_current B_t_draft B_t_keeps B_t_keeps_e B_t_twisting t_toldCount u.1 u.2.1 t_draft_n t_draft_cells t_keeps_n t_keeps_cells t_twisting_modulus u.2.2)) [0, 1, 2, 3, 4, 14, 15] [5, 6, 7, 8, 9, 10, 11, 12, 13] [9, 10, 11, 12, 13, 0, 1, 2, 3, 4, 5, 6, 7, 8, 14, 15] rfl rfl rfl rfl (by decide) (fun _ => rfl) rfl 0 9 rfl rfl rfl rfl hl.1 rfl (Nat.le_of_ble_eq_true rfl) dX10_times_144 (fun r144 u H locs h hP hD hS => ?_)
              obtain ⟨t_current_n_144, t_current_cells_144, t_twisting_values_144⟩ := u
              try dsimp only at h
              have hP : va_P G vwCl (w_X10_times Y h_t B_t B_t_current B_t_draft B_t_keeps B_t_keeps_e B_t_twisting t_toldCount t_current_n_144 t_current_cells_144 t_draft_n t_draft_cells t_keeps_n t_keeps_cells t_twisting_modulus t_twisting_values_144) H := hP
              have hD : va_D A (w_X10_times Y h_t B_t B_t_current B_t_draft B_t_keeps B_t_keeps_e B_t_twisting t_toldCount t_current_n_144 t_current_cells_144 t_draft_n t_draft_cells t_keeps_n t_keeps_cells t_twisting_modulus t_twisting_values_144) := hD
              exact hret r144 t_current_n_144 t_current_cells_144 t_draft_n t_draft_cells t_twisting_values_144 H locs ls _ hP hD hS h dX10_times_147
            · have h := hf c9
              refine lv_iconst (v := 0) hx hb dX10_times_75 (by decide) ?_
              refine lv_istore (lv' := [(5, .int (0 : Int32)), (0, .ref h_t), (2, .ref (B_t_keeps 3)), (3, .int x3), (4, .int x4)]) hx hb dX10_times_76 hl (by decide) rfl (fun ls hl => ?_)
              obtain ⟨I78, m78, hI78, hB78⟩ := h
              have L78 : ∀ (x4 : Int32) (I78 : Int32 → (Nat → Int32) → Prop) (m78 : Int32 → (Nat → Int32) → Nat), (∀ (x5 : Int32) (t_draft_cells : Nat → Int32), I78 x5 t_draft_cells → pX10_times_78 t_keeps_n t_keeps_cells R63 K 3 x3 t_current_n t_current_cells t_draft_n t_twisting_values x4 x5 t_draft_cells (fun x5' t_draft_cells' => I78 x5' t_draft_cells' ∧ m78 x5' t_draft_cells' < m78 x5 t_draft_cells)) → ∀ (n : Nat) (x5 : Int32) (t_draft_cells : Nat → Int32) (H : Heap) (locs : List Loc) (ls : Array Slot), I78 x5 t_draft_cells → m78 x5 t_draft_cells < n → va_P G vwCl (w_X10_times Y h_t B_t B_t_current B_t_draft B_t_keeps B_t_keeps_e B_t_twisting t_toldCount t_current_n t_current_cells t_draft_n t_draft_cells t_keeps_n t_keeps_cells t_twisting_modulus t_twisting_values) H → va_D A (w_X10_times Y h_t B_t B_t_current B_t_draft B_t_keeps B_t_keeps_e B_t_twisting t_toldCount t_current_n t_current_cells t_draft_n t_draft_cells t_keeps_n t_keeps_cells t_twisting_modulus t_twisting_values) → va_S A s.heap H locs → lv_has ls 6 [(0, .ref h_t), (2, .ref (B_t_keeps 3)), (3, .int x3), (4, .int x4), (5, .int x5)] → W p l e R s m args below meth c H locs 0 0 Q (F0 m 78 ls []) := by
                intro x4 I78 m78 hB78 n
                induction n with
                | zero => intro x5 t_draft_cells H locs ls _ hm; exact absurd hm (Nat.not_lt_zero _)
                | succ n ih =>
                  intro x5 t_draft_cells H locs ls hI hm hP hD hS hl
                  obtain ⟨R78, h, rec78⟩ : ∃ R78 : Int32 → (Nat → Int32) → Prop, pX10_times_78 t_keeps_n t_keeps_cells R63 K 3 x3 t_current_n t_current_cells t_draft_n t_twisting_values x4 x5 t_draft_cells R78 ∧ ∀ (x5 : Int32) (t_draft_cells : Nat → Int32) (H : Heap) (locs : List Loc) (ls : Array Slot), R78 x5 t_draft_cells → va_P G vwCl (w_X10_times Y h_t B_t B_t_current B_t_draft B_t_keeps B_t_keeps_e B_t_twisting t_toldCount t_current_n t_current_cells t_draft_n t_draft_cells t_keeps_n t_keeps_cells t_twisting_modulus t_twisting_values) H → va_D A (w_X10_times Y h_t B_t B_t_current B_t_draft B_t_keeps B_t_keeps_e B_t_twisting t_toldCount t_current_n t_current_cells t_draft_n t_draft_cells t_keeps_n t_keeps_cells t_twisting_modulus t_twisting_values) → va_S A s.heap H locs → lv_has ls 6 [(0, .ref h_t), (2, .ref (B_t_keeps 3)), (3, .int x3), (4, .int x4), (5, .int x5)] → W p l e R s m args below meth c H locs 0 0 Q (F0 m 78 ls []) := ⟨_, hB78 x5 t_draft_cells hI, fun x5 t_draft_cells H locs ls hh hP hD hS hl => ih x5 t_draft_cells H locs ls hh.1 (Nat.lt_of_lt_of_le hh.2 (Nat.le_of_lt_succ hm)) hP hD hS hl⟩
                  refine lv_iload hx hb dX10_times_78 (lv_at hl 4 rfl) ?_
                  refine lv_aload_n hx hb dX10_times_80 rfl (lv_at hl 0 rfl) ?_
                  refine va_get (D := G) (ci := 9) (v := .ref (B_t 1)) (C := RX10) (T := TX10) (N := 15) hx hb hts inX10 hown hK hP 0 rfl rfl 1 (by decide) hf18 (fun _ h9 => h9) rfl dX10_times_81 ?_
                  refine va_getN (D := G) (ci := 6) (v := .int t_draft_n) (C := RX7) (T := TX7) (N := 2) hx hb hts inX7 hown hK hP 3 rfl rfl 1 (by decide) (hE.nest args 0 _ rfl) (fun _ h9 => h9) rfl dX10_times_84 ?_
                  obtain ⟨ht, hf⟩ := h
                  refine lv_icmp_ge (tgt := 137) hx hb dX10_times_87 (by decide) (fun c9 => ?_) (fun c9 => ?_)
                  · have h := ht c9
                    refine lv_iinc (v := (x4 + 1)) (lv' := [(4, .int (x4 + 1)), (0, .ref h_t), (2, .ref (B_t_keeps 3)), (3, .int x3), (5, .int x5)]) hx hb dX10_times_137 hl (k := 3) rfl rfl (by decide) rfl (fun ls hl => ?_)
                    refine lv_goto (tgt := 63) hx hb dX10_times_140 (by decide) ?_
                    exact rec63 (x4 + 1) t_draft_cells H locs ls h hP hD hS (lv_sub hl [1, 2, 3, 0] rfl)
                  · have h := hf c9
                    refine lv_aload_n hx hb dX10_times_90 rfl (lv_at hl 0 rfl) ?_
                    refine va_get (D := G) (ci := 9) (v := .ref (B_t 1)) (C := RX10) (T := TX10) (N := 15) hx hb hts inX10 hown hK hP 0 rfl rfl 1 (by decide) hf18 (fun _ h9 => h9) rfl dX10_times_91 ?_
                    refine lv_iload hx hb dX10_times_94 (lv_at hl 3 rfl) ?_
                    refine lv_iload hx hb dX10_times_96 (lv_at hl 4 rfl) ?_
                    refine lv_iload_n hx hb dX10_times_98 rfl (lv_at hl 2 rfl) ?_
                    refine lv_aload_n hx hb dX10_times_99 rfl (lv_at hl 0 rfl) ?_
                    refine va_get (D := G) (ci := 9) (v := .ref (B_t 0)) (C := RX10) (T := TX10) (N := 15) hx hb hts inX10 hown hK hP 0 rfl rfl 0 (by decide) hf14 (fun _ h9 => h9) rfl dX10_times_100 ?_
                    refine lv_iload hx hb dX10_times_103 (lv_at hl 3 rfl) ?_
                    refine lv_iload_n hx hb dX10_times_105 rfl (lv_at hl 2 rfl) ?_
                    obtain ⟨hne, h⟩ := h
                    refine lv_idiv hx hb dX10_times_106 hne ?_
                    refine lv_iload hx hb dX10_times_107 (lv_at hl 4 rfl) ?_
                    refine lv_iload_n hx hb dX10_times_109 rfl (lv_at hl 2 rfl) ?_
                    obtain ⟨hne, h⟩ := h
                    refine lv_idiv hx hb dX10_times_110 hne ?_
                    refine mc_iV ⟨hx, hb, hml, hown, hts⟩ hK hE hA hP hD hS (c_X7_turned l G Y tF H.size (B_t 0) B_t_current t_current_n t_current_cells (x4 / x3) (x5 / x3) h) (cwV 2 hts gX10_times_X7_turned rfl rfl rfl (by decide +kernel) ⟨Nat.le_trans (by decide) hRf, Nat.le_trans (by decide) hRl⟩) (fun u => (w_X10_times Y h_t B_t B_t_current B_t_draft B_t_keeps B_t_keeps_e B_t_twisting t_toldCount t_current_n t_current_cells t_draft_n t_draft_cells t_keeps_n t_keeps_cells t_twisting_modulus t_twisting_values)) [1, 2] [0, 3, 4, 5, 6, 7, 8, 9, 10, 11, 12, 13, 14, 15] [0, 14, 15, 1, 2, 3, 4, 5, 6, 7, 8, 9, 10, 11, 12, 13] rfl rfl rfl rfl (by decide) (fun _ => rfl) rfl 1 6 rfl rfl rfl rfl hl.1 rfl (Nat.le_of_ble_eq_true rfl) dX10_times_111 (fun r111 u H locs h hP hD hS => ?_)
                    try dsimp only at h
                    have hP : va_P G vwCl (w_X10_times Y h_t B_t B_t_current B_t_draft B_t_keeps B_t_keeps_e B_t_twisting t_toldCount t_current_n t_current_cells t_draft_n t_draft_cells t_keeps_n t_keeps_cells t_twisting_modulus t_twisting_values) H := hP
                    have hD : va_D A (w_X10_times Y h_t B_t B_t_current B_t_draft B_t_keeps B_t_keeps_e B_t_twisting t_toldCount t_current_n t_current_cells t_draft_n t_draft_cells t_keeps_n t_keeps_cells t_twisting_modulus t_twisting_values) := hD
                    refine lv_imul hx hb dX10_times_114 ?_
                    refine lv_aload_n hx hb dX10_times_115 rfl (lv_at hl 1 rfl) ?_
                    refine lv_iload hx hb dX10_times_116 (lv_at hl 3 rfl) ?_
                    refine lv_iload_n hx hb dX10_times_118 rfl (lv_at hl 2 rfl) ?_
                    obtain ⟨hne, h⟩ := h
                    refine lv_irem hx hb dX10_times_119 hne ?_
                    refine lv_iload hx hb dX10_times_120 (lv_at hl 4 rfl) ?_
                    refine lv_iload_n hx hb dX10_times_122 rfl (lv_at hl 2 rfl) ?_
                    obtain ⟨hne, h⟩ := h
                    refine lv_irem hx hb dX10_times_123 hne ?_
                    refine mc_iV ⟨hx, hb, hml, hown, hts⟩ hK hE hA hP hD hS (c_X7_turned l G Y tF H.size (B_t_keeps 3) (B_t_keeps_e 3) (t_keeps_n 3) (t_keeps_cells 3) (x4 - x4 / x3 * x3) (x5 - x5 / x3 * x3) h) (cwV 2 hts gX10_times_X7_turned rfl rfl rfl (by decide +kernel) ⟨Nat.le_trans (by decide) hRf, Nat.le_trans (by decide) hRl⟩) (fun u => (w_X10_times Y h_t B_t B_t_current B_t_draft B_t_keeps B_t_keeps_e B_t_twisting t_toldCount t_current_n t_current_cells t_draft_n t_draft_cells t_keeps_n t_keeps_cells t_twisting_modulus t_twisting_values)) [12, 13] [0, 1, 2, 3, 4, 5, 6, 7, 8, 9, 10, 11, 14, 15] [0, 1, 2, 3, 4, 5, 6, 7, 8, 9, 10, 11, 14, 15, 12, 13] rfl rfl rfl rfl (by decide) (fun _ => rfl) rfl 12 6 rfl rfl rfl rfl hl.1 rfl (Nat.le_of_ble_eq_true rfl) dX10_times_124 (fun r124 u H locs h hP hD hS => ?_)
                    try dsimp only at h
                    have hP : va_P G vwCl (w_X10_times Y h_t B_t B_t_current B_t_draft B_t_keeps B_t_keeps_e B_t_twisting t_toldCount t_current_n t_current_cells t_draft_n t_draft_cells t_keeps_n t_keeps_cells t_twisting_modulus t_twisting_values) H := hP
                    have hD : va_D A (w_X10_times Y h_t B_t B_t_current B_t_draft B_t_keeps B_t_keeps_e B_t_twisting t_toldCount t_current_n t_current_cells t_draft_n t_draft_cells t_keeps_n t_keeps_cells t_twisting_modulus t_twisting_values) := hD
                    refine lv_iadd hx hb dX10_times_127 ?_
                    refine mc_vV ⟨hx, hb, hml, hown, hts⟩ hK hE hA hP hD hS (c_X7_put l G Y tF H.size (B_t 1) B_t_draft t_draft_n t_draft_cells x4 x5 ((x3 * r111) + r124) h) (cwV 3 hts gX10_times_X7_put rfl rfl rfl (by decide +kernel) ⟨Nat.le_trans (by decide) hRf, Nat.le_trans (by decide) hRl⟩) (fun u => (w_X10_times Y h_t B_t B_t_current B_t_draft B_t_keeps B_t_keeps_e B_t_twisting t_toldCount t_current_n t_current_cells t_draft_n u t_keeps_n t_keeps_cells t_twisting_modulus t_twisting_values)) [3, 4] [0, 1, 2, 5, 6, 7, 8, 9, 10, 11, 12, 13, 14, 15] [0, 1, 2, 14, 15, 3, 4, 5, 6, 7, 8, 9, 10, 11, 12, 13] rfl rfl rfl rfl (by decide) (fun _ => rfl) rfl 3 6 rfl rfl rfl rfl hl.1 rfl (Nat.le_of_ble_eq_true rfl) dX10_times_128 (fun u H locs h hP hD hS => ?_)
                    obtain ⟨t_draft_cells_128, rfl⟩ : ∃ z, z = u := ⟨_, rfl⟩
                    try dsimp only at h
                    have hP : va_P G vwCl (w_X10_times Y h_t B_t B_t_current B_t_draft B_t_keeps B_t_keeps_e B_t_twisting t_toldCount t_current_n t_current_cells t_draft_n t_draft_cells_128 t_keeps_n t_keeps_cells t_twisting_modulus t_twisting_values) H := hP
                    have hD : va_D A (w_X10_times Y h_t B_t B_t_current B_t_draft B_t_keeps B_t_keeps_e B_t_twisting t_toldCount t_current_n t_current_cells t_draft_n t_draft_cells_128 t_keeps_n t_keeps_cells t_twisting_modulus t_twisting_values) := hD
                    refine lv_iinc (v := (x5 + 1)) (lv' := [(5, .int (x5 + 1)), (0, .ref h_t), (2, .ref (B_t_keeps 3)), (3, .int x3), (4, .int x4)]) hx hb dX10_times_131 hl (k := 4) rfl rfl (by decide) rfl (fun ls hl => ?_)
                    refine lv_goto (tgt := 78) hx hb dX10_times_134 (by decide) ?_
                    exact rec78 (x5 + 1) t_draft_cells_128 H locs ls h hP hD hS (lv_sub hl [1, 2, 3, 4, 0] rfl)
              exact L78 x4 I78 m78 hB78 _ (0 : Int32) t_draft_cells H locs ls hI78 (Nat.lt_succ_self _) hP hD hS (lv_sub hl [1, 2, 3, 4, 0] rfl)
        exact L63 (t_keeps_n 3) t_current_n t_current_cells (t_current_n * (t_keeps_n 3)) t_twisting_values I63 m63 hB63 _ (0 : Int32) t_draft_cells H locs ls hI63 (Nat.lt_succ_self _) hP hD hS (lv_sub hl [3, 2, 1, 0] rfl)
      · have h := hf c9
        refine lv_iconst (v := -1) hx hb dX10_times_30 (by decide) ?_
        exact hret (-1 : Int32) t_current_n t_current_cells t_draft_n t_draft_cells t_twisting_values H locs ls _ hP hD hS h dX10_times_31

set_option maxHeartbeats 20000000 in
set_option maxRecDepth 100000 in
theorem c_X10_times (l : Launch) (G : va_G) (Y : Nat → ClassId) (tF sz : Nat) (h_t : Nat) (B_t : Nat → Nat) (B_t_current : Nat → Nat) (B_t_draft : Nat → Nat) (B_t_keeps : Nat → Nat) (B_t_keeps_e : Nat → Nat → Nat) (B_t_twisting : Nat → Nat) (t_toldCount : Int32) (t_current_n : Int32) (t_current_cells : Nat → Int32) (t_draft_n : Int32) (t_draft_cells : Nat → Int32) (t_keeps_n : Nat → Int32) (t_keeps_cells : Nat → Nat → Int32) (t_twisting_modulus : Int32) (t_twisting_values : Nat → Int32) (x1 : Int32) {K : Int32 → Int32 → (Nat → Int32) → Int32 → (Nat → Int32) → (Nat → Int32) → Prop} (h : pX10_times t_current_n t_current_cells t_draft_n t_draft_cells t_keeps_n t_keeps_cells t_twisting_values x1 K) : Met l yX10_times wsX10_times ({ frames := 3, cells := 0, slots := 0, locals := 105 }) (PcM G Y tF sz (w_X10_times Y h_t B_t B_t_current B_t_draft B_t_keeps B_t_keeps_e B_t_twisting t_toldCount t_current_n t_current_cells t_draft_n t_draft_cells t_keeps_n t_keeps_cells t_twisting_modulus t_twisting_values) [.ref h_t, .int x1]) (va_Qi (fun (r : Int32) (u : Int32 × (Nat → Int32) × Int32 × (Nat → Int32) × (Nat → Int32)) => K r u.1 u.2.1 u.2.2.1 u.2.2.2.1 u.2.2.2.2) (fun u t => BM G Y (va_A (w_X10_times Y h_t B_t B_t_current B_t_draft B_t_keeps B_t_keeps_e B_t_twisting t_toldCount t_current_n t_current_cells t_draft_n t_draft_cells t_keeps_n t_keeps_cells t_twisting_modulus t_twisting_values) sz) (w_X10_times Y h_t B_t B_t_current B_t_draft B_t_keeps B_t_keeps_e B_t_twisting t_toldCount u.1 u.2.1 u.2.2.1 u.2.2.2.1 t_keeps_n t_keeps_cells t_twisting_modulus u.2.2.2.2) t) (va_A (w_X10_times Y h_t B_t B_t_current B_t_draft B_t_keeps B_t_keeps_e B_t_twisting t_toldCount t_current_n t_current_cells t_draft_n t_draft_cells t_keeps_n t_keeps_cells t_twisting_modulus t_twisting_values) sz)) 0 0 (va_A (w_X10_times Y h_t B_t B_t_current B_t_draft B_t_keeps B_t_keeps_e B_t_twisting t_toldCount t_current_n t_current_cells t_draft_n t_draft_cells t_keeps_n t_keeps_cells t_twisting_modulus t_twisting_values) sz) := by
  refine Met.ofW (cc := cX10_times) (maxL := 6) (ret := (some .int)) (by decide +kernel) rfl ?_
  intro p e s m args below meth c s₁ B hml hv
  obtain ⟨rfl, hsz, hP, hK, hD0, hE⟩ := hv
  have hts := atoms_spec (ws := wsX10_times) B.pre
  have hown : s.vm.findClass RX10 = some m.cls := findClass_of_methodNamed B.named
  have hlocks := B.notSynchronized
  subst hsz
  have hD := hD0.self (sz := s.heap.size)
  exact wk_X10_times h_t B_t B_t_current B_t_draft B_t_keeps B_t_keeps_e B_t_twisting t_toldCount t_current_n t_current_cells t_draft_n t_draft_cells t_keeps_n t_keeps_cells t_twisting_modulus t_twisting_values x1 B.exec B.bytes hml hown hts hK hE (fun q h => Or.inr h) (Nat.le_refl _) (Nat.le_refl _) (fun r t_current_n t_current_cells t_draft_n t_draft_cells t_twisting_values H locs ls pc hP hD hS hk hd => W.iret (v := r) B.exec B.bytes B.returns (fun t ht hW => ⟨⟨r, (t_current_n, t_current_cells, t_draft_n, t_draft_cells, t_twisting_values), rfl, hk, by rw [ht]; exact hP, va_K.moved hW.alike hK, hD⟩, hS.F ht⟩) hS.2.2 hd) hP hD h

