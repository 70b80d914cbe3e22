abbrev w_X10_like (Y : Nat → ClassId) (h_t : Nat) (B_t : Nat → Nat) (B_t_current : Nat → Nat) (B_t_keeps : Nat → Nat) (B_t_keeps_e : Nat → Nat → Nat) (B_t_matcher : Nat → Nat) (t_toldCount : Int32) (t_current_n : Int32) (t_current_cells : Nat → Int32) (t_keeps_n : Nat → Int32) (t_keeps_cells : Nat → Nat → Int32) (t_matcher_used : Int32) (t_matcher_images : Nat → Int32) (t_matcher_signsHere : Nat → Int32) (t_matcher_signsThere : Nat → Int32) : va_W := [(h_t, .inr (9, [.ref (B_t 0), .ref (B_t 1), .ref (B_t 2), .ref (B_t 3), .ref (B_t 4), .ref (B_t 5), .ref (B_t 6), .ref (B_t 7), .ref (B_t 8), .ref (B_t 9), .ref (B_t 10), .ref (B_t 11), .ref (B_t 12), .ref (B_t 13), .int t_toldCount])), ((B_t 0), .inr (6, [.ref (B_t_current 0), .int t_current_n])), ((B_t_current 0), .inl (Y 0, 64, .inl t_current_cells)), ((B_t 3), .inl (Y 2, 4, .inr (.inr (.inr (.inr (fun i => if i < 4 then some (B_t_keeps i) else none)))))), ((B_t_keeps 0), .inr (6, [.ref ((B_t_keeps_e 0) 0), .int (t_keeps_n 0)])), (((B_t_keeps_e 0) 0), .inl (Y 0, 64, .inl (t_keeps_cells 0))), ((B_t_keeps 1), .inr (6, [.ref ((B_t_keeps_e 1) 0), .int (t_keeps_n 1)])), (((B_t_keeps_e 1) 0), .inl (Y 0, 64, .inl (t_keeps_cells 1))), ((B_t_keeps 2), .inr (6, [.ref ((B_t_keeps_e 2) 0), .int (t_keeps_n 2)])), (((B_t_keeps_e 2) 0), .inl (Y 0, 64, .inl (t_keeps_cells 2))), ((B_t_keeps 3), .inr (6, [.ref ((B_t_keeps_e 3) 0), .int (t_keeps_n 3)])), (((B_t_keeps_e 3) 0), .inl (Y 0, 64, .inl (t_keeps_cells 3))), ((B_t 7), .inr (3, [.ref (B_t_matcher 0), .ref (B_t_matcher 1), .ref (B_t_matcher 2), .int t_matcher_used])), ((B_t_matcher 2), .inl (Y 0, 8, .inl t_matcher_images)), ((B_t_matcher 0), .inl (Y 0, 8, .inl t_matcher_signsHere)), ((B_t_matcher 1), .inl (Y 0, 8, .inl t_matcher_signsThere))]

set_option maxHeartbeats 4000000 in
set_option maxRecDepth 100000 in
theorem wk_X10_like {p : Program} {l : Launch} {e : Env} {R : Room} {s : State} {m : MethodId} {args : Array Value} {below : List Frame} {meth : Method} {c : Code} {Q : State → Prop} {G : va_G} {Y : Nat → ClassId} {tF : Nat} {A : Nat → Prop} (h_t : Nat) (B_t : Nat → Nat) (B_t_current : Nat → Nat) (B_t_keeps : Nat → Nat) (B_t_keeps_e : Nat → Nat → Nat) (B_t_matcher : Nat → Nat) (t_toldCount : Int32) (t_current_n : Int32) (t_current_cells : Nat → Int32) (t_keeps_n : Nat → Int32) (t_keeps_cells : Nat → Nat → Int32) (t_matcher_used : Int32) (t_matcher_images : Nat → Int32) (t_matcher_signsHere : Nat → Int32) (t_matcher_signsThere : Nat → Int32) (x1 : Int32) {K : Int32 → Int32 → (Nat → Int32) → (Nat → Int32) → (Nat → Int32) → Prop} (hx : p.tables.exec = Jvm.exec) (hb : c.code = cX10_like) (hml : c.maxLocals = 2) (hown : s.vm.findClass RX10 = some m.cls) (hts : ∀ w ∈ wsX10_like, w.before args s = true) (hK : va_K G vwCl (tyL Y) s) (hE : Ev A tF s) (hA : ∀ q, s.heap.size ≤ q → A q) (hRf : 24 ≤ R.frames) (hRl : 588 ≤ R.locals) (hret : ∀ (r : Int32) (t_matcher_used : Int32) (t_matcher_images : Nat → Int32) (t_matcher_signsHere : Nat → Int32) (t_matcher_signsThere : Nat → Int32) (H : Heap) (locs : List Loc) (ls : Array Slot) (pc : Nat), va_P G vwCl (w_X10_like Y h_t B_t B_t_current B_t_keeps B_t_keeps_e B_t_matcher t_toldCount t_current_n t_current_cells t_keeps_n t_keeps_cells t_matcher_used t_matcher_images t_matcher_signsHere t_matcher_signsThere) H → va_D A (w_X10_like Y h_t B_t B_t_current B_t_keeps B_t_keeps_e B_t_matcher t_toldCount t_current_n t_current_cells t_keeps_n t_keeps_cells t_matcher_used t_matcher_images t_matcher_signsHere t_matcher_signsThere) → va_S A s.heap H locs → K r t_matcher_used t_matcher_images t_matcher_signsHere t_matcher_signsThere → decode cX10_like pc = .ok (.ireturn, 1) → W p l e R s m args below meth c H locs 0 0 Q (F0 m pc ls [.int r])) (hP : va_P G vwCl (w_X10_like Y h_t B_t B_t_current B_t_keeps B_t_keeps_e B_t_matcher t_toldCount t_current_n t_current_cells t_keeps_n t_keeps_cells t_matcher_used t_matcher_images t_matcher_signsHere t_matcher_signsThere) s.heap) (hD : va_D A (w_X10_like Y h_t B_t B_t_current B_t_keeps B_t_keeps_e B_t_matcher t_toldCount t_current_n t_current_cells t_keeps_n t_keeps_cells t_matcher_used t_matcher_images t_matcher_signsHere t_matcher_signsThere)) (h : pX10_like t_current_n t_current_cells t_keeps_n t_keeps_cells t_matcher_used t_matcher_images t_matcher_signsHere t_matcher_signsThere x1 K) : W p l e R s m args below meth c s.heap [] 0 0 Q (entryFrame m ([.ref h_t, .int x1] : List Value).toArray 2) := by
  have inX10 : ∀ w ∈ u_ws RX10 TX10 15, w ∈ wsX10_like := by decide +kernel
  have hf14 := hts (.fieldLink RX10 14 "RackBench" "current" "LRackBench$Table;") (by decide +kernel)
  have hf24 := hts (.fieldLink RX10 24 "RackBench" "keeps" "[LRackBench$Table;") (by decide +kernel)
  have hf52 := hts (.fieldLink RX10 52 "RackBench" "matcher" "LRackBench$Matcher;") (by decide +kernel)
  have hl := lv_entry ([.ref h_t, .int x1]) (n := 2) (Nat.le_of_ble_eq_true rfl)
  rw [lg_entry_eq]
  generalize (lg_sl ([.ref h_t, .int x1]) ++ List.replicate (2 - (lg_sl ([.ref h_t, .int x1])).length) Slot.unset).toArray = ls at hl ⊢
  have hl : lv_has ls 2 [(0, .ref h_t), (1, .int x1)] := hl
  generalize hH0 : s.heap = H at hP ⊢
  have hS : va_S A s.heap H [] := by rw [← hH0]; exact va_S.rf
  clear hH0
  generalize ([] : List Loc) = locs at hS ⊢
  refine lv_aload_n hx hb dX10_like_0 rfl (lv_at hl 0 rfl) ?_
  refine lv_iload_n hx hb dX10_like_1 rfl (lv_at hl 1 rfl) ?_
  refine mc_iV ⟨hx, hb, hml, hown, hts⟩ hK hE hA hP hD hS (c_X10_isFilled l G Y tF H.size h_t B_t B_t_keeps B_t_keeps_e t_toldCount t_keeps_n x1 h) (cwV 1 hts gX10_like_X10_isFilled rfl rfl rfl (by decide +kernel) ⟨Nat.le_trans (by decide) hRf, Nat.le_trans (by decide) hRl⟩) (fun u => (w_X10_like Y h_t B_t B_t_current B_t_keeps B_t_keeps_e B_t_matcher t_toldCount t_current_n t_current_cells t_keeps_n t_keeps_cells t_matcher_used t_matcher_images t_matcher_signsHere t_matcher_signsThere)) [0, 3, 4, 6, 8, 10] [1, 2, 5, 7, 9, 11, 12, 13, 14, 15] [10, 0, 1, 11, 12, 2, 13, 3, 14, 4, 15, 5, 6, 7, 8, 9] rfl rfl rfl rfl (by decide) (fun _ => rfl) rfl 0 9 rfl rfl rfl rfl hl.1 rfl (Nat.le_of_ble_eq_true rfl) dX10_like_2 (fun r2 u H locs h hP hD hS => ?_)
  try dsimp only at h
  have hP : va_P G vwCl (w_X10_like Y h_t B_t B_t_current B_t_keeps B_t_keeps_e B_t_matcher t_toldCount t_current_n t_current_cells t_keeps_n t_keeps_cells t_matcher_used t_matcher_images t_matcher_signsHere t_matcher_signsThere) H := hP
  have hD : va_D A (w_X10_like Y h_t B_t B_t_current B_t_keeps B_t_keeps_e B_t_matcher t_toldCount t_current_n t_current_cells t_keeps_n t_keeps_cells t_matcher_used t_matcher_images t_matcher_signsHere t_matcher_signsThere) := hD
  obtain ⟨ht, hf⟩ := h
  refine lv_if_ne (tgt := 10) hx hb dX10_like_5 (by decide) (fun c9 => ?_) (fun c9 => ?_)
  · have h := ht c9
    refine lv_aload_n hx hb dX10_like_10 rfl (lv_at hl 0 rfl) ?_
    refine va_get (D := G) (ci := 9) (v := .ref (B_t 7)) (C := RX10) (T := TX10) (N := 15) hx hb hts inX10 hown hK hP 0 rfl rfl 7 (by decide) hf52 (fun _ h9 => h9) rfl dX10_like_11 ?_
    refine lv_aload_n hx hb dX10_like_14 rfl (lv_at hl 0 rfl) ?_
    refine va_get (D := G) (ci := 9) (v := .ref (B_t 0)) (C := RX10) (T := TX10) (N := 15) hx hb hts inX10 hown hK hP 0 rfl rfl 0 (by decide) hf14 (fun _ h9 => h9) rfl dX10_like_15 ?_
    refine lv_aload_n hx hb dX10_like_18 rfl (lv_at hl 0 rfl) ?_
    refine va_get (D := G) (ci := 9) (v := .ref (B_t 3)) (C := RX10) (T := TX10) (N := 15) hx hb hts inX10 hown hK hP 0 rfl rfl 3 (by decide) hf24 (fun _ h9 => h9) rfl dX10_like_19 ?_
    refine lv_iload_n hx hb dX10_like_22 rfl (lv_at hl 1 rfl) ?_
    obtain ⟨hin, h⟩ := h
    refine va_aldq hx hb hK hP 3 2 rfl rfl hin dX10_like_23 ?_
    obtain ⟨j9, hj9, e9⟩ := vp_in_of hin (by decide)
    have e8 : Int32.toNatClampNeg x1 = j9 := by rw [e9]; exact nI_clamp (by omega)
    simp only [e8]
    have e70 : t_keeps_n (Int32.toNatClampNeg x1) = t_keeps_n j9 := by rw [e8]
    have e60 : ∀ v9, va_up t_keeps_n (Int32.toNatClampNeg x1) v9 = va_up t_keeps_n j9 v9 := by intro v9; rw [e8]
    have e71 : t_keeps_cells (Int32.toNatClampNeg x1) = t_keeps_cells j9 := by rw [e8]
    have e61 : ∀ v9, va_up t_keeps_cells (Int32.toNatClampNeg x1) v9 = va_up t_keeps_cells j9 v9 := by intro v9; rw [e8]
    try simp only [e70, e71, e60, e61] at h
    clear e70 e60 e71 e61
    clear hin e9
    rcases (show j9 = 0 ∨ j9 = 1 ∨ j9 = 2 ∨ j9 = 3 by omega) with rfl | rfl | rfl | rfl
    · clear hj9
      refine W.eq (g2 := F0 m 24 ls [.ref (B_t_keeps 0), .ref (B_t 0), .ref (B_t 7)]) rfl ?_
      refine mc_iV ⟨hx, hb, hml, hown, hts⟩ hK hE hA hP hD hS (c_X3_matches l G Y tF H.size (B_t 7) (B_t 0) (B_t_keeps 0) B_t_matcher B_t_current (B_t_keeps_e 0) t_matcher_used t_matcher_images t_matcher_signsHere t_matcher_signsThere t_current_n t_current_cells (t_keeps_n 0) (t_keeps_cells 0) h) (cwV 2 hts gX10_like_X3_matches rfl rfl rfl (by decide +kernel) ⟨Nat.le_trans (by decide) hRf, Nat.le_trans (by decide) hRl⟩) (fun u => (w_X10_like Y h_t B_t B_t_current B_t_keeps B_t_keeps_e B_t_matcher t_toldCount t_current_n t_current_cells t_keeps_n t_keeps_cells u.1 u.2.1 u.2.2.1 u.2.2.2)) [12, 13, 14, 15, 1, 2, 4, 5] [0, 3, 6, 7, 8, 9, 10, 11] [0, 12, 13, 1, 14, 15, 2, 3, 4, 5, 6, 7, 8, 9, 10, 11] rfl rfl rfl rfl (by decide) (fun _ => rfl) rfl 12 3 rfl rfl rfl rfl hl.1 rfl (Nat.le_of_ble_eq_true rfl) dX10_like_24 (fun r24 u H locs h hP hD hS => ?_)
      obtain ⟨t_matcher_used_24, t_matcher_images_24, t_matcher_signsHere_24, t_matcher_signsThere_24⟩ := u
      try dsimp only at h
      have hP : va_P G vwCl (w_X10_like Y h_t B_t B_t_current B_t_keeps B_t_keeps_e B_t_matcher t_toldCount t_current_n t_current_cells t_keeps_n t_keeps_cells t_matcher_used_24 t_matcher_images_24 t_matcher_signsHere_24 t_matcher_signsThere_24) H := hP
      have hD : va_D A (w_X10_like Y h_t B_t B_t_current B_t_keeps B_t_keeps_e B_t_matcher t_toldCount t_current_n t_current_cells t_keeps_n t_keeps_cells t_matcher_used_24 t_matcher_images_24 t_matcher_signsHere_24 t_matcher_signsThere_24) := hD
      obtain ⟨ht, hf⟩ := h
      refine lv_if_eq (tgt := 34) hx hb dX10_like_27 (by decide) (fun c9 => ?_) (fun c9 => ?_)
      · have h := ht c9
        refine lv_iconst (v := 0) hx hb dX10_like_34 (by decide) ?_
        exact hret (0 : Int32) t_matcher_used_24 t_matcher_images_24 t_matcher_signsHere_24 t_matcher_signsThere_24 H locs ls _ hP hD hS h dX10_like_35
      · have h := hf c9
        refine lv_iconst (v := 1) hx hb dX10_like_30 (by decide) ?_
        refine lv_goto (tgt := 35) hx hb dX10_like_31 (by decide) ?_
        exact hret (1 : Int32) t_matcher_used_24 t_matcher_images_24 t_matcher_signsHere_24 t_matcher_signsThere_24 H locs ls _ hP hD hS h dX10_like_35
    · clear hj9
      refine W.eq (g2 := F0 m 24 ls [.ref (B_t_keeps 1), .ref (B_t 0), .ref (B_t 7)]) rfl ?_
      refine mc_iV ⟨hx, hb, hml, hown, hts⟩ hK hE hA hP hD hS (c_X3_matches l G Y tF H.size (B_t 7) (B_t 0) (B_t_keeps 1) B_t_matcher B_t_current (B_t_keeps_e 1) t_matcher_used t_matcher_images t_matcher_signsHere t_matcher_signsThere t_current_n t_current_cells (t_keeps_n 1) (t_keeps_cells 1) h) (cwV 2 hts gX10_like_X3_matches rfl rfl rfl (by decide +kernel) ⟨Nat.le_trans (by decide) hRf, Nat.le_trans (by decide) hRl⟩) (fun u => (w_X10_like Y h_t B_t B_t_current B_t_keeps B_t_keeps_e B_t_matcher t_toldCount t_current_n t_current_cells t_keeps_n t_keeps_cells u.1 u.2.1 u.2.2.1 u.2.2.2)) [12, 13, 14, 15, 1, 2, 6, 7] [0, 3, 4, 5, 8, 9, 10, 11] [0, 12, 13, 1, 2, 3, 14, 15, 4, 5, 6, 7, 8, 9, 10, 11] rfl rfl rfl rfl (by decide) (fun _ => rfl) rfl 12 3 rfl rfl rfl rfl hl.1 rfl (Nat.le_of_ble_eq_true rfl) dX10_like_24 (fun r24 u H locs h hP hD hS => ?_)
      obtain ⟨t_matcher_used_24, t_matcher_images_24, t_matcher_signsHere_24, t_matcher_signsThere_24⟩ := u
      try dsimp only at h
      have hP : va_P G vwCl (w_X10_like Y h_t B_t B_t_current B_t_keeps B_t_keeps_e B_t_matcher t_toldCount t_current_n t_current_cells t_keeps_n t_keeps_cells t_matcher_used_24 t_matcher_images_24 t_matcher_signsHere_24 t_matcher_signsThere_24) H := hP
      have hD : va_D A (w_X10_like Y h_t B_t B_t_current B_t_keeps B_t_keeps_e B_t_matcher t_toldCount t_current_n t_current_cells t_keeps_n t_keeps_cells t_matcher_used_24 t_matcher_images_24 t_matcher_signsHere_24 t_matcher_signsThere_24) := hD
      obtain ⟨ht, hf⟩ := h
      refine lv_if_eq (tgt := 34) hx hb dX10_like_27 (by decide) (fun c9 => ?_) (fun c9 => ?_)
      · have h := ht c9
        refine lv_iconst (v := 0) hx hb dX10_like_34 (by decide) ?_
        exact hret (0 : Int32) t_matcher_used_24 t_matcher_images_24 t_matcher_signsHere_24 t_matcher_signsThere_24 H locs ls _ hP hD hS h dX10_like_35
      · have h := hf c9
        refine lv_iconst (v := 1) hx hb dX10_like_30 (by decide) ?_
        refine lv_goto (tgt := 35) hx hb dX10_like_31 (by decide) ?_
        exact hret (1 : Int32) t_matcher_used_24 t_matcher_images_24 t_matcher_signsHere_24 t_matcher_signsThere_24 H locs ls _ hP hD hS h dX10_like_35
    · clear hj9
      refine W.eq (g2 := F0 m 24 ls [.ref (B_t_keeps 2), .ref (B_t 0), .ref (B_t 7)]) rfl ?_
      refine mc_iV ⟨hx, hb, hml, hown, hts⟩ hK hE hA hP hD hS (c_X3_matches l G Y tF H.size (B_t 7) (B_t 0) (B_t_keeps 2) B_t_matcher B_t_current (B_t_keeps_e 2) t_matcher_used t_matcher_images t_matcher_signsHere t_matcher_signsThere t_current_n t_current_cells (t_keeps_n 2) (t_keeps_cells 2) h) (cwV 2 hts gX10_like_X3_matches rfl rfl rfl (by decide +kernel) ⟨Nat.le_trans (by decide) hRf, Nat.le_trans (by decide) hRl⟩) (fun u => (w_X10_like Y h_t B_t B_t_current B_t_keeps B_t_keeps_e B_t_matcher t_toldCount t_current_n t_current_cells t_keeps_n t_keeps_cells u.1 u.2.1 u.2.2.1 u.2.2.2)) [12, 13, 14, 15, 1, 2, 8, 9] [0, 3, 4, 5, 6, 7, 10, 11] [0, 12, 13, 1, 2, 3, 4, 5, 14, 15, 6, 7, 8, 9, 10, 11] rfl rfl rfl rfl (by decide) (fun _ => rfl) rfl 12 3 rfl rfl rfl rfl hl.1 rfl (Nat.le_of_ble_eq_true rfl) dX10_like_24 (fun r24 u H locs h hP hD hS => ?_)
      obtain ⟨t_matcher_used_24, t_matcher_images_24, t_matcher_signsHere_24, t_matcher_signsThere_24⟩ := u
      try dsimp only at h
      have hP : va_P G vwCl (w_X10_like Y h_t B_t B_t_current B_t_keeps B_t_keeps_e B_t_matcher t_toldCount t_current_n t_current_cells t_keeps_n t_keeps_cells t_matcher_used_24 t_matcher_images_24 t_matcher_signsHere_24 t_matcher_signsThere_24) H := hP
      have hD : va_D A (w_X10_like Y h_t B_t B_t_current B_t_keeps B_t_keeps_e B_t_matcher t_toldCount t_current_n t_current_cells t_keeps_n t_keeps_cells t_matcher_used_24 t_matcher_images_24 t_matcher_signsHere_24 t_matcher_signsThere_24) := hD
      obtain ⟨ht, hf⟩ := h
      refine lv_if_eq (tgt := 34) hx hb dX10_like_27 (by decide) (fun c9 => ?_) (fun c9 => ?_)
      · have h := ht c9
        refine lv_iconst (v := 0) hx hb dX10_like_34 (by decide) ?_
        exact hret (0 : Int32) t_matcher_used_24 t_matcher_images_24 t_matcher_signsHere_24 t_matcher_signsThere_24 H locs ls _ hP hD hS h dX10_like_35
      · have h := hf c9
        refine lv_iconst (v := 1) hx hb dX10_like_30 (by decide) ?_
        refine lv_goto (tgt := 35) hx hb dX10_like_31 (by decide) ?_
        exact hret (1 : Int32) t_matcher_used_24 t_matcher_images_24 t_matcher_signsHere_24 t_matcher_signsThere_24 H locs ls _ hP hD hS h dX10_like_35
    · clear hj9
      refine W.eq (g2 := F0 m 24 ls [.ref (B_t_keeps 3), .ref (B_t 0), .ref (B_t 7)]) rfl ?_
      refine mc_iV ⟨hx, hb, hml, hown, hts⟩ hK hE hA hP hD hS (c_X3_matches l G Y tF H.size (B_t 7) (B_t 0) (B_t_keeps 3) B_t_matcher B_t_current (B_t_keeps_e 3) t_matcher_used t_matcher_images t_matcher_signsHere t_matcher_signsThere t_current_n t_current_cells (t_keeps_n 3) (t_keeps_cells 3) h) (cwV 2 hts gX10_like_X3_matches rfl rfl rfl (by decide +kernel) ⟨Nat.le_trans (by decide) hRf, Nat.le_trans (by decide) hRl⟩) (fun u => (w_X10_like Y h_t B_t B_t_current B_t_keeps B_t_keeps_e B_t_matcher t_toldCount t_current_n t_current_cells t_keeps_n t_keeps_cells u.1 u.2.1 u.2.2.1 u.2.2.2)) [12, 13, 14, 15, 1, 2, 10, 11] [0, 3, 4, 5, 6, 7, 8, 9] [0, 12, 13, 1, 2, 3, 4, 5, 6, 7, 14, 15, 8, 9, 10, 11] rfl rfl rfl rfl (by decide) (fun _ => rfl) rfl 12 3 rfl rfl rfl rfl hl.1 rfl (Nat.le_of_ble_eq_true rfl) dX10_like_24 (fun r24 u H locs h hP hD hS => ?_)
      obtain ⟨t_matcher_used_24, t_matcher_images_24, t_matcher_signsHere_24, t_matcher_signsThere_24⟩ := u
      try dsimp only at h
      have hP : va_P G vwCl (w_X10_like Y h_t B_t B_t_current B_t_keeps B_t_keeps_e B_t_matcher t_toldCount t_current_n t_current_cells t_keeps_n t_keeps_cells t_matcher_used_24 t_matcher_images_24 t_matcher_signsHere_24 t_matcher_signsThere_24) H := hP
      have hD : va_D A (w_X10_like Y h_t B_t B_t_current B_t_keeps B_t_keeps_e B_t_matcher t_toldCount t_current_n t_current_cells t_keeps_n t_keeps_cells t_matcher_used_24 t_matcher_images_24 t_matcher_signsHere_24 t_matcher_signsThere_24) := hD
      obtain ⟨ht, hf⟩ := h
      refine lv_if_eq (tgt := 34) hx hb dX10_like_27 (by decide) (fun c9 => ?_) (fun c9 => ?_)
      · have h := ht c9
        refine lv_iconst (v := 0) hx hb dX10_like_34 (by decide) ?_
        exact hret (0 : Int32) t_matcher_used_24 t_matcher_images_24 t_matcher_signsHere_24 t_matcher_signsThere_24 H locs ls _ hP hD hS h dX10_like_35
      · have h := hf c9
        refine lv_iconst (v := 1) hx hb dX10_like_30 (by decide) ?_
        refine lv_goto (tgt := 35) hx hb dX10_like_31 (by decide) ?_
        exact hret (1 : Int32) t_matcher_used_24 t_matcher_images_24 t_matcher_signsHere_24 t_matcher_signsThere_24 H locs ls _ hP hD hS h dX10_like_35
  · have h := hf c9
    refine lv_iconst (v := -1) hx hb dX10_like_8 (by decide) ?_
    exact hret (-1 : Int32) t_matcher_used t_matcher_images t_matcher_signsHere t_matcher_signsThere H locs ls _ hP hD hS h dX10_like_9

set_option maxHeartbeats 4000000 in
set_option maxRecDepth 100000 in
theorem c_X10_like (l : Launch) (G : va_G) (Y : Nat → ClassId) (tF sz : Nat) (h_t : Nat) (B_t : Nat → Nat) (B_t_current : Nat → Nat) (B_t_keeps : Nat → Nat) (B_t_keeps_e : Nat → Nat → Nat) (B_t_matcher : Nat → Nat) (t_toldCount : Int32) (t_current_n : Int32) (t_current_cells : Nat → Int32) (t_keeps_n : Nat → Int32) (t_keeps_cells : Nat → Nat → Int32) (t_matcher_used : Int32) (t_matcher_images : Nat → Int32) (t_matcher_signsHere : Nat → Int32) (t_matcher_signsThere : Nat → Int32) (x1 : Int32) {K : Int32 → Int32 → (Nat → Int32) → (Nat → Int32) → (Nat → Int32) → Prop} (h : pX10_like t_current_n t_current_cells t_keeps_n t_keeps_cells t_matcher_used t_matcher_images t_matcher_signsHere t_matcher_signsThere x1 K) : Met l yX10_like wsX10_like ({ frames := 24, cells := 0, slots := 0, locals := 588 }) (PcM G Y tF sz (w_X10_like Y h_t B_t B_t_current B_t_keeps B_t_keeps_e B_t_matcher t_toldCount t_current_n t_current_cells t_keeps_n t_keeps_cells t_matcher_used t_matcher_images t_matcher_signsHere t_matcher_signsThere) [.ref h_t, .int x1]) (va_Qi (fun (r : Int32) (u : Int32 × (Nat → Int32) × (Nat → Int32) × (Nat → Int32)) => K r u.1 u.2.1 u.2.2.1 u.2.2.2) (fun u t => BM G Y (va_A (w_X10_like Y h_t B_t B_t_current B_t_keeps B_t_keeps_e B_t_matcher t_toldCount t_current_n t_current_cells t_keeps_n t_keeps_cells t_matcher_used t_matcher_images t_matcher_signsHere t_matcher_signsThere) sz) (w_X10_like Y h_t B_t B_t_current B_t_keeps B_t_keeps_e B_t_matcher t_toldCount t_current_n t_current_cells t_keeps_n t_keeps_cells u.1 u.2.1 u.2.2.1 u.2.2.2) t) (va_A (w_X10_like Y h_t B_t B_t_current B_t_keeps B_t_keeps_e B_t_matcher t_toldCount t_current_n t_current_cells t_keeps_n t_keeps_cells t_matcher_used t_matcher_images t_matcher_signsHere t_matcher_signsThere) sz)) 0 0 (va_A (w_X10_like Y h_t B_t B_t_current B_t_keeps B_t_keeps_e B_t_matcher t_toldCount t_current_n t_current_cells t_keeps_n t_keeps_cells t_matcher_used t_matcher_images t_matcher_signsHere t_matcher_signsThere) sz) := by
  refine Met.ofW (cc := cX10_like) (maxL := 2) (ret := (some .int)) (by decide +kernel) rfl ?_
  intro p e s m args below meth c s₁ B hml hv
  obtain ⟨rfl, hsz, hP, hK, hD0, hE⟩ := hv
  have hts := atoms_spec (ws := wsX10_like) B.pre
  have hown : s.vm.findClass RX10 = some m.cls := findClass_of_methodNamed B.named
  have hlocks := B.notSynchronized
  subst hsz
  have hD := hD0.self (sz := s.heap.size)
  exact wk_X10_like h_t B_t B_t_current B_t_keeps B_t_keeps_e B_t_matcher t_toldCount t_current_n t_current_cells t_keeps_n t_keeps_cells t_matcher_used t_matcher_images t_matcher_signsHere t_matcher_signsThere x1 B.exec B.bytes hml hown hts hK hE (fun q h => Or.inr h) (Nat.le_refl _) (Nat.le_refl _) (fun r t_matcher_used t_matcher_images t_matcher_signsHere t_matcher_signsThere H locs ls pc hP hD hS hk hd => W.iret (v := r) B.exec B.bytes B.returns (fun t ht hW => ⟨⟨r, (t_matcher_used, t_matcher_images, t_matcher_signsHere, t_matcher_signsThere), rfl, hk, by rw [ht]; exact hP, va_K.moved hW.alike hK, hD⟩, hS.F ht⟩) hS.2.2 hd) hP hD h

abbrev w_X10_dual (Y : Nat → ClassId) (h_t : Nat) (B_t : Nat → Nat) (B_t_current : Nat → Nat) (B_t_draft : Nat → Nat) (B_t_twisting : Nat → Nat) (t_toldCount : Int32) (t_current_n : Int32) (t_current_cells : Nat → Int32) (t_draft_n : Int32) (t_draft_cells : Nat → Int32) (t_twisting_modulus : Int32) (t_twisting_values : Nat → Int32) : va_W := [(h_t, .inr (9, [.ref (B_t 0), .ref (B_t 1), .ref (B_t 2), .ref (B_t 3), .ref (B_t 4), .ref (B_t 5), .ref (B_t 6), .ref (B_t 7), .ref (B_t 8), .ref (B_t 9), .ref (B_t 10), .ref (B_t 11), .ref (B_t 12), .ref (B_t 13), .int t_toldCount])), ((B_t 0), .inr (6, [.ref (B_t_current 0), .int t_current_n])), ((B_t_current 0), .inl (Y 0, 64, .inl t_current_cells)), ((B_t 1), .inr (6, [.ref (B_t_draft 0), .int t_draft_n])), ((B_t_draft 0), .inl (Y 0, 64, .inl t_draft_cells)), ((B_t 4), .inr (8, [.ref (B_t_twisting 0), .int t_twisting_modulus])), ((B_t_twisting 0), .inl (Y 0, 64, .inl t_twisting_values))]

set_option maxHeartbeats 4000000 in
set_option maxRecDepth 100000 in
theorem wk_X10_dual {p : Program} {l : Launch} {e : Env} {R : Room} {s : State} {m : MethodId} {args : Array Value} {below : List Frame} {meth : Method} {c : Code} {Q : State → Prop} {G : va_G} {Y : Nat → ClassId} {tF : Nat} {A : Nat → Prop} (h_t : Nat) (B_t : Nat → Nat) (B_t_current : Nat → Nat) (B_t_draft : Nat → Nat) (B_t_twisting : Nat → Nat) (t_toldCount : Int32) (t_current_n : Int32) (t_current_cells : Nat → Int32) (t_draft_n : Int32) (t_draft_cells : Nat → Int32) (t_twisting_modulus : Int32) (t_twisting_values : Nat → Int32) {K : Int32 → Int32 → (Nat → Int32) → Int32 → (Nat → Int32) → (Nat → Int32) → Prop} (hx : p.tables.exec = Jvm.exec) (hb : c.code = cX10_dual) (hml : c.maxLocals = 1) (hown : s.vm.findClass RX10 = some m.cls) (hts : ∀ w ∈ wsX10_dual, w.before args s = true) (hK : va_K G vwCl (tyL Y) s) (hE : Ev A tF s) (hA : ∀ q, s.heap.size ≤ q → A q) (hRf : 3 ≤ R.frames) (hRl : 105 ≤ R.locals) (hret : ∀ (r : Int32) (t_current_n : Int32) (t_current_cells : Nat → Int32) (t_draft_n : Int32) (t_draft_cells : Nat → Int32) (t_twisting_values : Nat → Int32) (H : Heap) (locs : List Loc) (ls : Array Slot) (pc : Nat), va_P G vwCl (w_X10_dual Y h_t B_t B_t_current B_t_draft B_t_twisting t_toldCount t_current_n t_current_cells t_draft_n t_draft_cells t_twisting_modulus t_twisting_values) H → va_D A (w_X10_dual Y h_t B_t B_t_current B_t_draft B_t_twisting t_toldCount t_current_n t_current_cells t_draft_n t_draft_cells t_twisting_modulus t_twisting_values) → va_S A s.heap H locs → zb r → K r t_current_n t_current_cells t_draft_n t_draft_cells t_twisting_values → decode cX10_dual pc = .ok (.ireturn, 1) → W p l e R s m args below meth c H locs 0 0 Q (F0 m pc ls [.int r])) (hP : va_P G vwCl (w_X10_dual Y h_t B_t B_t_current B_t_draft B_t_twisting t_toldCount t_current_n t_current_cells t_draft_n t_draft_cells t_twisting_modulus t_twisting_values) s.heap) (hD : va_D A (w_X10_dual Y h_t B_t B_t_current B_t_draft B_t_twisting t_toldCount t_current_n t_current_cells t_draft_n t_draft_cells t_twisting_modulus t_twisting_values)) (h : pX10_dual t_current_n t_current_cells t_draft_n t_draft_cells t_twisting_values K) : W p l e R s m args below meth c s.heap [] 0 0 Q (entryFrame m ([.ref h_t] : List Value).toArray 1) := by
  have inX10 : ∀ w ∈ u_ws RX10 TX10 15, w ∈ wsX10_dual := by decide +kernel
  have hf14 := hts (.fieldLink RX10 14 "RackBench" "current" "LRackBench$Table;") (by decide +kernel)
  have hf18 := hts (.fieldLink RX10 18 "RackBench" "draft" "LRackBench$Table;") (by decide +kernel)
  have hl := lv_entry ([.ref h_t]) (n := 1) (Nat.le_of_ble_eq_true rfl)
  rw [lg_entry_eq]
  generalize (lg_sl ([.ref h_t]) ++ List.replicate (1 - (lg_sl ([.ref h_t])).length) Slot.unset).toArray = ls at hl ⊢
  have hl : lv_has ls 1 [(0, .ref h_t)] := hl
  generalize hH0 : s.heap = H at hP ⊢
  have hS : va_S A s.heap H [] := by rw [← hH0]; exact va_S.rf
  clear hH0
  generalize ([] : List Loc) = locs at hS ⊢
  refine lv_aload_n hx hb dX10_dual_0 rfl (lv_at hl 0 rfl) ?_
  refine va_get (D := G) (ci := 9) (v := .ref (B_t 0)) (C := RX10) (T := TX10) (N := 15) hx hb hts inX10 hown hK hP 0 rfl rfl 0 (by decide) hf14 (fun _ h9 => h9) rfl dX10_dual_1 ?_
  refine mc_iV ⟨hx, hb, hml, hown, hts⟩ hK hE hA hP hD hS (c_X7_firstTornRow l G Y tF H.size (B_t 0) B_t_current t_current_n t_current_cells h) (cwV 0 hts gX10_dual_X7_firstTornRow rfl rfl rfl (by decide +kernel) ⟨Nat.le_trans (by decide) hRf, Nat.le_trans (by decide) hRl⟩) (fun u => (w_X10_dual Y h_t B_t B_t_current B_t_draft B_t_twisting t_toldCount t_current_n t_current_cells t_draft_n t_draft_cells t_twisting_modulus t_twisting_values)) [1, 2] [0, 3, 4, 5, 6] [0, 5, 6, 1, 2, 3, 4] rfl rfl rfl rfl (by decide) (fun _ => rfl) rfl 1 6 rfl rfl rfl rfl hl.1 rfl (Nat.le_of_ble_eq_true rfl) dX10_dual_4 (fun r4 u H locs h hP hD hS => ?_)
  try dsimp only at h
  have hP : va_P G vwCl (w_X10_dual Y h_t B_t B_t_current B_t_draft B_t_twisting t_toldCount t_current_n t_current_cells t_draft_n t_draft_cells t_twisting_modulus t_twisting_values) H := hP
  have hD : va_D A (w_X10_dual Y h_t B_t B_t_current B_t_draft B_t_twisting t_toldCount t_current_n t_current_cells t_draft_n t_draft_cells t_twisting_modulus t_twisting_values) := hD
  refine lv_iconst (v := -1) hx hb dX10_dual_7 (by decide) ?_
  obtain ⟨ht, hf⟩ := h
  refine lv_icmp_eq (tgt := 13) hx hb dX10_dual_8 (by decide) (fun c9 => ?_) (fun c9 => ?_)
  · have h := ht c9
    refine lv_aload_n hx hb dX10_dual_13 rfl (lv_at hl 0 rfl) ?_
    refine va_get (D := G) (ci := 9) (v := .ref (B_t 1)) (C := RX10) (T := TX10) (N := 15) hx hb hts inX10 hown hK hP 0 rfl rfl 1 (by decide) hf18 (fun _ h9 => h9) rfl dX10_dual_14 ?_
    refine lv_aload_n hx hb dX10_dual_17 rfl (lv_at hl 0 rfl) ?_
    refine va_get (D := G) (ci := 9) (v := .ref (B_t 0)) (C := RX10) (T := TX10) (N := 15) hx hb hts inX10 hown hK hP 0 rfl rfl 0 (by decide) hf14 (fun _ h9 => h9) rfl dX10_dual_18 ?_
    refine mc_vV ⟨hx, hb, hml, hown, hts⟩ hK hE hA hP hD hS (c_X7_makeContrary l G Y tF H.size (B_t 1) (B_t 0) B_t_draft B_t_current t_draft_n t_draft_cells t_current_n t_current_cells h) (cwV 1 hts gX10_dual_X7_makeContrary rfl rfl rfl (by decide +kernel) ⟨Nat.le_trans (by decide) hRf, Nat.le_trans (by decide) hRl⟩) (fun u => (w_X10_dual Y h_t B_t B_t_current B_t_draft B_t_twisting t_toldCount t_current_n t_current_cells u.1 u.2 t_twisting_modulus t_twisting_values)) [3, 4, 1, 2] [0, 5, 6] [0, 5, 6, 3, 4, 1, 2] rfl rfl rfl rfl (by decide) (fun _ => rfl) rfl 3 6 rfl rfl rfl rfl hl.1 rfl (Nat.le_of_ble_eq_true rfl) dX10_dual_21 (fun u H locs h hP hD hS => ?_)
    obtain ⟨t_draft_n_21, t_draft_cells_21⟩ := u
    try dsimp only at h
    have hP : va_P G vwCl (w_X10_dual Y h_t B_t B_t_current B_t_draft B_t_twisting t_toldCount t_current_n t_current_cells t_draft_n_21 t_draft_cells_21 t_twisting_modulus t_twisting_values) H := hP
    have hD : va_D A (w_X10_dual Y h_t B_t B_t_current B_t_draft B_t_twisting t_toldCount t_current_n t_current_cells t_draft_n_21 t_draft_cells_21 t_twisting_modulus t_twisting_values) := hD
    refine lv_aload_n hx hb dX10_dual_24 rfl (lv_at hl 0 rfl) ?_
    refine mc_iV ⟨hx, hb, hml, hown, hts⟩ hK hE hA hP hD hS (c_X10_adoptDraft l G Y tF H.size h_t B_t B_t_current B_t_draft B_t_twisting t_toldCount t_current_n t_current_cells t_draft_n_21 t_draft_cells_21 t_twisting_modulus t_twisting_values h) (cwV 0 hts gX10_dual_X10_adoptDraft rfl rfl rfl (by decide +kernel) ⟨Nat.le_trans (by decide) hRf, Nat.le_trans (by decide) hRl⟩) (fun u => (w_X10_dual Y h_t B_t B_t_current B_t_draft B_t_twisting t_toldCount u.1 u.2.1 t_draft_n_21 t_draft_cells_21 t_twisting_modulus u.2.2)) [0, 1, 2, 3, 4, 5, 6] [] [0, 1, 2, 3, 4, 5, 6] rfl rfl rfl rfl (by decide) (fun _ => rfl) rfl 0 9 rfl rfl rfl rfl hl.1 rfl (Nat.le_of_ble_eq_true rfl) dX10_dual_25 (fun r25 u H locs h hP hD hS => ?_)
    obtain ⟨t_current_n_25, t_current_cells_25, t_twisting_values_25⟩ := u
    try dsimp only at h
    have hP : va_P G vwCl (w_X10_dual Y h_t B_t B_t_current B_t_draft B_t_twisting t_toldCount t_current_n_25 t_current_cells_25 t_draft_n_21 t_draft_cells_21 t_twisting_modulus t_twisting_values_25) H := hP
    have hD : va_D A (w_X10_dual Y h_t B_t B_t_current B_t_draft B_t_twisting t_toldCount t_current_n_25 t_current_cells_25 t_draft_n_21 t_draft_cells_21 t_twisting_modulus t_twisting_values_25) := hD
    refine lv_pop hx hb dX10_dual_28 rfl ?_
    refine lv_iconst (v := 1) hx hb dX10_dual_29 (by decide) ?_
    obtain ⟨hz, h⟩ := h
    exact hret (1 : Int32) t_current_n_25 t_current_cells_25 t_draft_n_21 t_draft_cells_21 t_twisting_values_25 H locs ls _ hP hD hS hz h dX10_dual_30
  · have h := hf c9
    refine lv_iconst (v := 0) hx hb dX10_dual_11 (by decide) ?_
    obtain ⟨hz, h⟩ := h
    exact hret (0 : Int32) t_current_n t_current_cells t_draft_n t_draft_cells t_twisting_values H locs ls _ hP hD hS hz h dX10_dual_12

set_option maxHeartbeats 4000000 in
set_option maxRecDepth 100000 in
theorem c_X10_dual (l : Launch) (G : va_G) (Y : Nat → ClassId) (tF sz : Nat) (h_t : Nat) (B_t : Nat → Nat) (B_t_current : Nat → Nat) (B_t_draft : Nat → Nat) (B_t_twisting : Nat → Nat) (t_toldCount : Int32) (t_current_n : Int32) (t_current_cells : Nat → Int32) (t_draft_n : Int32) (t_draft_cells : Nat → Int32) (t_twisting_modulus : Int32) (t_twisting_values : Nat → Int32) {K : Int32 → Int32 → (Nat → Int32) → Int32 → (Nat → Int32) → (Nat → Int32) → Prop} (h : pX10_dual t_current_n t_current_cells t_draft_n t_draft_cells t_twisting_values K) : Met l yX10_dual wsX10_dual ({ frames := 3, cells := 0, slots := 0, locals := 105 }) (PcM G Y tF sz (w_X10_dual Y h_t B_t B_t_current B_t_draft B_t_twisting t_toldCount t_current_n t_current_cells t_draft_n t_draft_cells t_twisting_modulus t_twisting_values) [.ref h_t]) (va_Qi (fun (r : Int32) (u : Int32 × (Nat → Int32) × Int32 × (Nat → Int32) × (Nat → Int32)) => K r u.1 u.2.1 u.2.2.1 u.2.2.2.1 u.2.2.2.2) (fun u t => BM G Y (va_A (w_X10_dual Y h_t B_t B_t_current B_t_draft B_t_twisting t_toldCount t_current_n t_current_cells t_draft_n t_draft_cells t_twisting_modulus t_twisting_values) sz) (w_X10_dual Y h_t B_t B_t_current B_t_draft B_t_twisting t_toldCount u.1 u.2.1 u.2.2.1 u.2.2.2.1 t_twisting_modulus u.2.2.2.2) t) (va_A (w_X10_dual Y h_t B_t B_t_current B_t_draft B_t_twisting t_toldCount t_current_n t_current_cells t_draft_n t_draft_cells t_twisting_modulus t_twisting_values) sz)) 0 0 (va_A (w_X10_dual Y h_t B_t B_t_current B_t_draft B_t_twisting t_toldCount t_current_n t_current_cells t_draft_n t_draft_cells t_twisting_modulus t_twisting_values) sz) := by
  refine Met.ofW (cc := cX10_dual) (maxL := 1) (ret := (some .boolean)) (by decide +kernel) rfl ?_
  intro p e s m args below meth c s₁ B hml hv
  obtain ⟨rfl, hsz, hP, hK, hD0, hE⟩ := hv
  have hts := atoms_spec (ws := wsX10_dual) B.pre
  have hown : s.vm.findClass RX10 = some m.cls := findClass_of_methodNamed B.named
  have hlocks := B.notSynchronized
  subst hsz
  have hD := hD0.self (sz := s.heap.size)
  exact wk_X10_dual h_t B_t B_t_current B_t_draft B_t_twisting t_toldCount t_current_n t_current_cells t_draft_n t_draft_cells t_twisting_modulus t_twisting_values B.exec B.bytes hml hown hts hK hE (fun q h => Or.inr h) (Nat.le_refl _) (Nat.le_refl _) (fun r t_current_n t_current_cells t_draft_n t_draft_cells t_twisting_values H locs ls pc hP hD hS hz hk hd => W.zret (v := r) B.exec B.bytes B.returns hz.n (fun t ht hW => ⟨⟨r, (t_current_n, t_current_cells, t_draft_n, t_draft_cells, t_twisting_values), rfl, hk, by rw [ht]; exact hP, va_K.moved hW.alike hK, hD⟩, hS.F ht⟩) hS.2.2 hd) hP hD h

abbrev w_X10_times (Y : Nat → ClassId) (h_t : Nat) (B_t : Nat → Nat) (B_t_current : Nat → Nat) (B_t_draft : Nat → Nat) (B_t_keeps : Nat → Nat) (B_t_keeps_e : Nat → Nat → Nat) (B_t_twisting : Nat → Nat) (t_toldCount : Int32) (t_current_n : Int32) (t_current_cells : Nat → Int32) (t_draft_n : Int32) (t_draft_cells : Nat → Int32) (t_keeps_n : Nat → Int32) (t_keeps_cells : Nat → Nat → Int32) (t_twisting_modulus : Int32) (t_twisting_values : Nat → Int32) : va_W := [(h_t, .inr (9, [.ref (B_t 0), .ref (B_t 1), .ref (B_t 2), .ref (B_t 3), .ref (B_t 4), .ref (B_t 5), .ref (B_t 6), .ref (B_t 7), .ref (B_t 8), .ref (B_t 9), .ref (B_t 10), .ref (B_t 11), .ref (B_t 12), .ref (B_t 13), .int t_toldCount])), ((B_t 0), .inr (6, [.ref (B_t_current 0), .int t_current_n])), ((B_t_current 0), .inl (Y 0, 64, .inl t_current_cells)), ((B_t 1), .inr (6, [.ref (B_t_draft 0), .int t_draft_n])), ((B_t_draft 0), .inl (Y 0, 64, .inl t_draft_cells)), ((B_t 3), .inl (Y 2, 4, .inr (.inr (.inr (.inr (fun i => if i < 4 then some (B_t_keeps i) else none)))))), ((B_t_keeps 0), .inr (6, [.ref ((B_t_keeps_e 0) 0), .int (t_keeps_n 0)])), (((B_t_keeps_e 0) 0), .inl (Y 0, 64, .inl (t_keeps_cells 0))), ((B_t_keeps 1), .inr (6, [.ref ((B_t_keeps_e 1) 0), .int (t_keeps_n 1)])), (((B_t_keeps_e 1) 0), .inl (Y 0, 64, .inl (t_keeps_cells 1))), ((B_t_keeps 2), .inr (6, [.ref ((B_t_keeps_e 2) 0), .int (t_keeps_n 2)])), (((B_t_keeps_e 2) 0), .inl (Y 0, 64, .inl (t_keeps_cells 2))), ((B_t_keeps 3), .inr (6, [.ref ((B_t_keeps_e 3) 0), .int (t_keeps_n 3)])), (((B_t_keeps_e 3) 0), .inl (Y 0, 64, .inl (t_keeps_cells 3))), ((B_t 4), .inr (8, [.ref (B_t_twisting 0), .int t_twisting_modulus])), ((B_t_twisting 0), .inl (Y 0, 64, .inl t_twisting_values))]

set_option maxHeartbeats 4000000 in
set_option maxRecDepth 100000 in
theorem wk_X10_times {p : Program} {l : Launch} {e : Env} {R : Room} {s : State} {m : MethodId} {args : Array Value} {below : List Frame} {meth : Method} {c : Code} {Q : State → Prop} {G : va_G} {Y : Nat → ClassId} {tF : Nat} {A : Nat → Prop} (h_t : Nat) (B_t : Nat → Nat) (B_t_current : Nat → Nat) (B_t_draft : Nat → Nat) (B_t_keeps : Nat → Nat) (B_t_keeps_e : Nat → Nat → Nat) (B_t_twisting : Nat → Nat) (t_toldCount : Int32) (t_current_n : Int32) (t_current_cells : Nat → Int32) (t_draft_n : Int32) (t_draft_cells : Nat → Int32) (t_keeps_n : Nat → Int32) (t_keeps_cells : Nat → Nat → Int32) (t_twisting_modulus : Int32) (t_twisting_values : Nat → Int32) (x1 : Int32) {K : Int32 → Int32 → (Nat → Int32) → Int32 → (Nat → Int32) → (Nat → Int32) → Prop} (hx : p.tables.exec = Jvm.exec) (hb : c.code = cX10_times) (hml : c.maxLocals = 6) (hown : s.vm.findClass RX10 = some m.cls) (hts : ∀ w ∈ wsX10_times, w.before args s = true) (hK : va_K G vwCl (tyL Y) s) (hE : Ev A tF s) (hA : ∀ q, s.heap.size ≤ q → A q) (hRf : 3 ≤ R.frames) (hRl : 105 ≤ R.locals) (hret : ∀ (r : Int32) (t_current_n : Int32) (t_current_cells : Nat → Int32) (t_draft_n : Int32) (t_draft_cells : Nat → Int32) (t_twisting_values : Nat → Int32) (H : Heap) (locs : List Loc) (ls : Array Slot) (pc : Nat), va_P G vwCl (w_X10_times Y h_t B_t B_t_current B_t_draft B_t_keeps B_t_keeps_e B_t_twisting t_toldCount t_current_n t_current_cells t_draft_n t_draft_cells t_keeps_n t_keeps_cells t_twisting_modulus t_twisting_values) H → va_D A (w_X10_times Y h_t B_t B_t_current B_t_draft B_t_keeps B_t_keeps_e B_t_twisting t_toldCount t_current_n t_current_cells t_draft_n t_draft_cells t_keeps_n t_keeps_cells t_twisting_modulus t_twisting_values) → va_S A s.heap H locs → K r t_current_n t_current_cells t_draft_n t_draft_cells t_twisting_values → decode cX10_times pc = .ok (.ireturn, 1) → W p l e R s m args below meth c H locs 0 0 Q (F0 m pc ls [.int r])) (hP : va_P G vwCl (w_X10_times Y h_t B_t B_t_current B_t_draft B_t_keeps B_t_keeps_e B_t_twisting t_toldCount t_current_n t_current_cells t_draft_n t_draft_cells t_keeps_n t_keeps_cells t_twisting_modulus t_twisting_values) s.heap) (hD : va_D A (w_X10_times Y h_t B_t B_t_current B_t_draft B_t_keeps B_t_keeps_e B_t_twisting t_toldCount t_current_n t_current_cells t_draft_n t_draft_cells t_keeps_n t_keeps_cells t_twisting_modulus t_twisting_values)) (h : pX10_times t_current_n t_current_cells t_draft_n t_draft_cells t_keeps_n t_keeps_cells t_twisting_values x1 K) : W p l e R s m args below meth c s.heap [] 0 0 Q (entryFrame m ([.ref h_t, .int x1] : List Value).toArray 6) := by
  have inX10 : ∀ w ∈ u_ws RX10 TX10 15, w ∈ wsX10_times := by decide +kernel
  have inX7 : ∀ w ∈ u_ws RX7 TX7 2, w ∈ wsX10_times := by decide +kernel
  have hf14 := hts (.fieldLink RX10 14 "RackBench" "current" "LRackBench$Table;") (by decide +kernel)
  have hf18 := hts (.fieldLink RX10 18 "RackBench" "draft" "LRackBench$Table;") (by decide +kernel)
  have hf24 := hts (.fieldLink RX10 24 "RackBench" "keeps" "[LRackBench$Table;") (by decide +kernel)
  have hl := lv_entry ([.ref h_t, .int x1]) (n := 6) (Nat.le_of_ble_eq_true rfl)
  rw [lg_entry_eq]
  generalize (lg_sl ([.ref h_t, .int x1]) ++ List.replicate (6 - (lg_sl ([.ref h_t, .int x1])).length) Slot.unset).toArray = ls at hl ⊢
  have hl : lv_has ls 6 [(0, .ref h_t), (1, .int x1)] := hl
  generalize hH0 : s.heap = H at hP ⊢
  have hS : va_S A s.heap H [] := by rw [← hH0]; exact va_S.rf
  clear hH0
  generalize ([] : List Loc) = locs at hS ⊢
  refine lv_aload_n hx hb dX10_times_0 rfl (lv_at hl 0 rfl) ?_
  refine lv_iload_n hx hb dX10_times_1 rfl (lv_at hl 1 rfl) ?_
  refine mc_iV ⟨hx, hb, hml, hown, hts⟩ hK hE hA hP hD hS (c_X10_isFilled l G Y tF H.size h_t B_t B_t_keeps B_t_keeps_e t_toldCount t_keeps_n x1 h) (cwV 1 hts gX10_times_X10_isFilled rfl rfl rfl (by decide +kernel) ⟨Nat.le_trans (by decide) hRf, Nat.le_trans (by decide) hRl⟩) (fun u => (w_X10_times Y h_t B_t B_t_current B_t_draft B_t_keeps B_t_keeps_e B_t_twisting t_toldCount t_current_n t_current_cells t_draft_n t_draft_cells t_keeps_n t_keeps_cells t_twisting_modulus t_twisting_values)) [0, 5, 6, 8, 10, 12] [1, 2, 3, 4, 7, 9, 11, 13, 14, 15] [10, 0, 1, 2, 3, 11, 12, 4, 13, 5, 14, 6, 15, 7, 8, 9] rfl rfl rfl rfl (by decide) (fun _ => rfl) rfl 0 9 rfl rfl rfl rfl hl.1 rfl (Nat.le_of_ble_eq_true rfl) dX10_times_2 (fun r2 u H locs h hP hD hS => ?_)
  try dsimp only at h
  have hP : va_P G vwCl (w_X10_times Y h_t B_t B_t_current B_t_draft B_t_keeps B_t_keeps_e B_t_twisting t_toldCount t_current_n t_current_cells t_draft_n t_draft_cells t_keeps_n t_keeps_cells t_twisting_modulus t_twisting_values) H := hP
  have hD : va_D A (w_X10_times Y h_t B_t B_t_current B_t_draft B_t_keeps B_t_keeps_e B_t_twisting t_toldCount t_current_n t_current_cells t_draft_n t_draft_cells t_keeps_n t_keeps_cells t_twisting_modulus t_twisting_values) := hD
  obtain ⟨ht, hf⟩ := h
  refine lv_if_eq (tgt := 30) hx hb dX10_times_5 (by decide) (fun c9 => ?_) (fun c9 => ?_)
  · have h := ht c9
    refine lv_iconst (v := -1) hx hb dX10_times_30 (by decide) ?_
    exact hret (-1 : Int32) t_current_n t_current_cells t_draft_n t_draft_cells t_twisting_values H locs ls _ hP hD hS h dX10_times_31
  · have h := hf c9
    refine lv_aload_n hx hb dX10_times_8 rfl (lv_at hl 0 rfl) ?_
    refine va_get (D := G) (ci := 9) (v := .ref (B_t 0)) (C := RX10) (T := TX10) (N := 15) hx hb hts inX10 hown hK hP 0 rfl rfl 0 (by decide) hf14 (fun _ h9 => h9) rfl dX10_times_9 ?_
    refine va_getN (D := G) (ci := 6) (v := .int t_current_n) (C := RX7) (T := TX7) (N := 2) hx hb hts inX7 hown hK hP 1 rfl rfl 1 (by decide) (hE.nest args 0 _ rfl) (fun _ h9 => h9) rfl dX10_times_12 ?_
    refine lv_aload_n hx hb dX10_times_15 rfl (lv_at hl 0 rfl) ?_
    refine va_get (D := G) (ci := 9) (v := .ref (B_t 3)) (C := RX10) (T := TX10) (N := 15) hx hb hts inX10 hown hK hP 0 rfl rfl 3 (by decide) hf24 (fun _ h9 => h9) rfl dX10_times_16 ?_
    refine lv_iload_n hx hb dX10_times_19 rfl (lv_at hl 1 rfl) ?_
    obtain ⟨hin, h⟩ := h
    refine va_aldq hx hb hK hP 5 2 rfl rfl hin dX10_times_20 ?_
    obtain ⟨j9, hj9, e9⟩ := vp_in_of hin (by decide)
    have e8 : Int32.toNatClampNeg x1 = j9 := by rw [e9]; exact nI_clamp (by omega)
    simp only [e8] at h ⊢
    clear hin e9
    rcases (show j9 = 0 ∨ j9 = 1 ∨ j9 = 2 ∨ j9 = 3 by omega) with rfl | rfl | rfl | rfl
    · clear hj9
      refine W.eq (g2 := F0 m 21 ls [.ref (B_t_keeps 0), .int t_current_n]) rfl ?_
      refine va_getN (D := G) (ci := 6) (v := .int (t_keeps_n 0)) (C := RX7) (T := TX7) (N := 2) hx hb hts inX7 hown hK hP 6 rfl rfl 1 (by decide) (hE.nest args 0 _ rfl) (fun _ h9 => h9) rfl dX10_times_21 ?_
      refine lv_imul hx hb dX10_times_24 ?_
      refine lv_bipush (v := 8) hx hb dX10_times_25 (by decide) ?_
      obtain ⟨ht, hf⟩ := h
      refine lv_icmp_le (tgt := 32) hx hb dX10_times_27 (by decide) (fun c9 => ?_) (fun c9 => ?_)
      · have h := ht c9
        refine lv_aload_n hx hb dX10_times_32 rfl (lv_at hl 0 rfl) ?_
        refine va_get (D := G) (ci := 9) (v := .ref (B_t 3)) (C := RX10) (T := TX10) (N := 15) hx hb hts inX10 hown hK hP 0 rfl rfl 3 (by decide) hf24 (fun _ h9 => h9) rfl dX10_times_33 ?_
        refine lv_iload_n hx hb dX10_times_36 rfl (lv_at hl 1 rfl) ?_
        obtain ⟨hin, h⟩ := h
        refine va_aldq hx hb hK hP 5 2 rfl rfl hin dX10_times_37 ?_
        simp only [e8]
        clear hin
        refine W.eq (g2 := F0 m 38 ls [.ref (B_t_keeps 0)]) rfl ?_
        refine lv_astore_n (lv' := [(2, .ref (B_t_keeps 0)), (0, .ref h_t), (1, .int x1)]) hx hb dX10_times_38 rfl hl (by decide) rfl (fun ls hl => ?_)
        refine lv_aload_n hx hb dX10_times_39 rfl (lv_at hl 0 rfl) ?_
        refine va_getN (D := G) (ci := 6) (v := .int (t_keeps_n 0)) (C := RX7) (T := TX7) (N := 2) hx hb hts inX7 hown hK hP 6 rfl rfl 1 (by decide) (hE.nest args 0 _ rfl) (fun _ h9 => h9) rfl dX10_times_40 ?_
        refine lv_istore_n (lv' := [(3, .int (t_keeps_n 0)), (2, .ref (B_t_keeps 0)), (0, .ref h_t), (1, .int x1)]) hx hb dX10_times_43 rfl hl (by decide) rfl (fun ls hl => ?_)
        refine lv_aload_n hx hb dX10_times_44 rfl (lv_at hl 2 rfl) ?_
        refine va_get (D := G) (ci := 9) (v := .ref (B_t 1)) (C := RX10) (T := TX10) (N := 15) hx hb hts inX10 hown hK hP 0 rfl rfl 1 (by decide) hf18 (fun _ h9 => h9) rfl dX10_times_45 ?_
        refine lv_aload_n hx hb dX10_times_48 rfl (lv_at hl 2 rfl) ?_
        refine va_get (D := G) (ci := 9) (v := .ref (B_t 0)) (C := RX10) (T := TX10) (N := 15) hx hb hts inX10 hown hK hP 0 rfl rfl 0 (by decide) hf14 (fun _ h9 => h9) rfl dX10_times_49 ?_
        refine va_getN (D := G) (ci := 6) (v := .int t_current_n) (C := RX7) (T := TX7) (N := 2) hx hb hts inX7 hown hK hP 1 rfl rfl 1 (by decide) (hE.nest args 0 _ rfl) (fun _ h9 => h9) rfl dX10_times_52 ?_
        refine lv_iload_n hx hb dX10_times_55 rfl (lv_at hl 0 rfl) ?_
        refine lv_imul hx hb dX10_times_56 ?_
        refine va_putN (D := G) (ci := 6) (v := .int (t_current_n * (t_keeps_n 0))) (ty := .int) (C := RX7) (T := TX7) (N := 2) hx hb hts inX7 tyX7 tyX7_ok nmX7 hown hK hP hD hS 3 rfl rfl 1 (by decide) (hE.nest args 0 _ rfl) (fun _ h9 => h9) rfl (by decide +kernel) rfl rfl (Nat.le_of_ble_eq_true rfl) dX10_times_57 (fun H locs hP hD hS => ?_)
        have hP : va_P G vwCl (w_X10_times Y h_t B_t B_t_current B_t_draft B_t_keeps B_t_keeps_e B_t_twisting t_toldCount t_current_n t_current_cells (t_current_n * (t_keeps_n 0)) t_draft_cells t_keeps_n t_keeps_cells t_twisting_modulus t_twisting_values) H := hP
        have hD : va_D A (w_X10_times Y h_t B_t B_t_current B_t_draft B_t_keeps B_t_keeps_e B_t_twisting t_toldCount t_current_n t_current_cells (t_current_n * (t_keeps_n 0)) t_draft_cells t_keeps_n t_keeps_cells t_twisting_modulus t_twisting_values) := hD
        refine lv_iconst (v := 0) hx hb dX10_times_60 (by decide) ?_
        refine lv_istore (lv' := [(4, .int (0 : Int32)), (3, .int (t_keeps_n 0)), (2, .ref (B_t_keeps 0)), (0, .ref h_t), (1, .int x1)]) hx hb dX10_times_61 hl (by decide) rfl (fun ls hl => ?_)
        obtain ⟨I63, m63, hI63, hB63⟩ := h
        have L63 : ∀ (x3 : Int32) (t_current_n : Int32) (t_current_cells : Nat → Int32) (t_draft_n : Int32) (t_twisting_values : Nat → Int32) (I63 : Int32 → (Nat → Int32) → Prop) (m63 : Int32 → (Nat → Int32) → Nat), (∀ (x4 : Int32) (t_draft_cells : Nat → Int32), I63 x4 t_draft_cells → pX10_times_63 t_keeps_n t_keeps_cells K 0 x3 t_current_n t_current_cells t_draft_n t_twisting_values x4 t_draft_cells (fun x4' t_draft_cells' => I63 x4' t_draft_cells' ∧ m63 x4' t_draft_cells' < m63 x4 t_draft_cells)) → ∀ (n : Nat) (x4 : Int32) (t_draft_cells : Nat → Int32) (H : Heap) (locs : List Loc) (ls : Array Slot), I63 x4 t_draft_cells → m63 x4 t_draft_cells < n → va_P G vwCl (w_X10_times Y h_t B_t B_t_current B_t_draft B_t_keeps B_t_keeps_e B_t_twisting t_toldCount t_current_n t_current_cells t_draft_n t_draft_cells t_keeps_n t_keeps_cells t_twisting_modulus t_twisting_values) H → va_D A (w_X10_times Y h_t B_t B_t_current B_t_draft B_t_keeps B_t_keeps_e B_t_twisting t_toldCount t_current_n t_current_cells t_draft_n t_draft_cells t_keeps_n t_keeps_cells t_twisting_modulus t_twisting_values) → va_S A s.heap H locs → lv_has ls 6 [(0, .ref h_t), (2, .ref (B_t_keeps 0)), (3, .int x3), (4, .int x4)] → W p l e R s m args below meth c H locs 0 0 Q (F0 m 63 ls []) := by
          intro x3 t_current_n t_current_cells t_draft_n t_twisting_values I63 m63 hB63 n
          induction n with
          | zero => intro x4 t_draft_cells H locs ls _ hm; exact absurd hm (Nat.not_lt_zero _)
          | succ n ih =>
            intro x4 t_draft_cells H locs ls hI hm hP hD hS hl
            obtain ⟨R63, h, rec63⟩ : ∃ R63 : Int32 → (Nat → Int32) → Prop, pX10_times_63 t_keeps_n t_keeps_cells K 0 x3 t_current_n t_current_cells t_draft_n t_twisting_values x4 t_draft_cells R63 ∧ ∀ (x4 : Int32) (t_draft_cells : Nat → Int32) (H : Heap) (locs : List Loc) (ls : Array Slot), R63 x4 t_draft_cells → va_P G vwCl (w_X10_times Y h_t B_t B_t_current B_t_draft B_t_keeps B_t_keeps_e B_t_twisting t_toldCount t_current_n t_current_cells t_draft_n t_draft_cells t_keeps_n t_keeps_cells t_twisting_modulus t_twisting_values) H → va_D A (w_X10_times Y h_t B_t B_t_current B_t_draft B_t_keeps B_t_keeps_e B_t_twisting t_toldCount t_current_n t_current_cells t_draft_n t_draft_cells t_keeps_n t_keeps_cells t_twisting_modulus t_twisting_values) → va_S A s.heap H locs → lv_has ls 6 [(0, .ref h_t), (2, .ref (B_t_keeps 0)), (3, .int x3), (4, .int x4)] → W p l e R s m args below meth c H locs 0 0 Q (F0 m 63 ls []) := ⟨_, hB63 x4 t_draft_cells hI, fun x4 t_draft_cells H locs ls hh hP hD hS hl => ih x4 t_draft_cells H locs ls hh.1 (Nat.lt_of_lt_of_le hh.2 (Nat.le_of_lt_succ hm)) hP hD hS hl⟩
            refine lv_iload hx hb dX10_times_63 (lv_at hl 3 rfl) ?_
            refine lv_aload_n hx hb dX10_times_65 rfl (lv_at hl 0 rfl) ?_
            refine va_get (D := G) (ci := 9) (v := .ref (B_t 1)) (C := RX10) (T := TX10) (N := 15) hx hb hts inX10 hown hK hP 0 rfl rfl 1 (by decide) hf18 (fun _ h9 => h9) rfl dX10_times_66 ?_
            refine va_getN (D := G) (ci := 6) (v := .int t_draft_n) (C := RX7) (T := TX7) (N := 2) hx hb hts inX7 hown hK hP 3 rfl rfl 1 (by decide) (hE.nest args 0 _ rfl) (fun _ h9 => h9) rfl dX10_times_69 ?_
            obtain ⟨ht, hf⟩ := h
            refine lv_icmp_ge (tgt := 143) hx hb dX10_times_72 (by decide) (fun c9 => ?_) (fun c9 => ?_)
            · have h := ht c9
              refine lv_aload_n hx hb dX10_times_143 rfl (lv_at hl 0 rfl) ?_
              refine mc_iV ⟨hx, hb, hml, hown, hts⟩ hK hE hA hP hD hS (c_X10_adoptDraft l G Y tF H.size h_t B_t B_t_current B_t_draft B_t_twisting t_toldCount t_current_n t_current_cells t_draft_n t_draft_cells t_twisting_modulus t_twisting_values h) (cwV 0 hts gX10_times_X10_adoptDraft rfl rfl rfl (by decide +kernel) ⟨Nat.le_trans (by decide) hRf, Nat.le_trans (by decide) hRl⟩) (fun u => (w_X10_times Y h_t B_t B_t_current B_t_draft B_t_keeps B_t_keeps_e B_t_twisting t_toldCount u.1 u.2.1 t_draft_n t_draft_cells t_keeps_n t_keeps_cells t_twisting_modulus u.2.2)) [0, 1, 2, 3, 4, 14, 15] [5, 6, 7, 8, 9, 10, 11, 12, 13] [9, 10, 11, 12, 13, 0, 1, 2, 3, 4, 5, 6, 7, 8, 14, 15] rfl rfl rfl rfl (by decide) (fun _ => rfl) rfl 0 9 rfl rfl rfl rfl hl.1 rfl (Nat.le_of_ble_eq_true rfl) dX10_times_144 (fun r144 u H locs h hP hD hS => ?_)
              obtain ⟨t_current_n_144, t_current_cells_144, t_twisting_values_144⟩ := u
              try dsimp only at h
              have hP : va_P G vwCl (w_X10_times Y h_t B_t B_t_current B_t_draft B_t_keeps B_t_keeps_e B_t_twisting t_toldCount t_current_n_144 t_current_cells_144 t_draft_n t_draft_cells t_keeps_n t_keeps_cells t_twisting_modulus t_twisting_values_144) H := hP
              have hD : va_D A (w_X10_times Y h_t B_t B_t_current B_t_draft B_t_keeps B_t_keeps_e B_t_twisting t_toldCount t_current_n_144 t_current_cells_144 t_draft_n t_draft_cells t_keeps_n t_keeps_cells t_twisting_modulus t_twisting_values_144) := hD
              exact hret r144 t_current_n_144 t_current_cells_144 t_draft_n t_draft_cells t_twisting_values_144 H locs ls _ hP hD hS h dX10_times_147
            · have h := hf c9
              refine lv_iconst (v := 0) hx hb dX10_times_75 (by decide) ?_
              refine lv_istore (lv' := [(5, .int (0 : Int32)), (0, .ref h_t), (2, .ref (B_t_keeps 0)), (3, .int x3), (4, .int x4)]) hx hb dX10_times_76 hl (by decide) rfl (fun ls hl => ?_)
              obtain ⟨I78, m78, hI78, hB78⟩ := h
              have L78 : ∀ (x4 : Int32) (I78 : Int32 → (Nat → Int32) → Prop) (m78 : Int32 → (Nat → Int32) → Nat), (∀ (x5 : Int32) (t_draft_cells : Nat → Int32), I78 x5 t_draft_cells → pX10_times_78 t_keeps_n t_keeps_cells R63 K 0 x3 t_current_n t_current_cells t_draft_n t_twisting_values x4 x5 t_draft_cells (fun x5' t_draft_cells' => I78 x5' t_draft_cells' ∧ m78 x5' t_draft_cells' < m78 x5 t_draft_cells)) → ∀ (n : Nat) (x5 : Int32) (t_draft_cells : Nat → Int32) (H : Heap) (locs : List Loc) (ls : Array Slot), I78 x5 t_draft_cells → m78 x5 t_draft_cells < n → va_P G vwCl (w_X10_times Y h_t B_t B_t_current B_t_draft B_t_keeps B_t_keeps_e B_t_twisting t_toldCount t_current_n t_current_cells t_draft_n t_draft_cells t_keeps_n t_keeps_cells t_twisting_modulus t_twisting_values) H → va_D A (w_X10_times Y h_t B_t B_t_current B_t_draft B_t_keeps B_t_keeps_e B_t_twisting t_toldCount t_current_n t_current_cells t_draft_n t_draft_cells t_keeps_n t_keeps_cells t_twisting_modulus t_twisting_values) → va_S A s.heap H locs → lv_has ls 6 [(0, .ref h_t), (2, .ref (B_t_keeps 0)), (3, .int x3), (4, .int x4), (5, .int x5)] → W p l e R s m args below meth c H locs 0 0 Q (F0 m 78 ls []) := by
                intro x4 I78 m78 hB78 n
                induction n with
                | zero => intro x5 t_draft_cells H locs ls _ hm; exact absurd hm (Nat.not_lt_zero _)
                | succ n ih =>
                  intro x5 t_draft_cells H locs ls hI hm hP hD hS hl
                  obtain ⟨R78, h, rec78⟩ : ∃ R78 : Int32 → (Nat → Int32) → Prop, pX10_times_78 t_keeps_n t_keeps_cells R63 K 0 x3 t_current_n t_current_cells t_draft_n t_twisting_values x4 x5 t_draft_cells R78 ∧ ∀ (x5 : Int32) (t_draft_cells : Nat → Int32) (H : Heap) (locs : List Loc) (ls : Array Slot), R78 x5 t_draft_cells → va_P G vwCl (w_X10_times Y h_t B_t B_t_current B_t_draft B_t_keeps B_t_keeps_e B_t_twisting t_toldCount t_current_n t_current_cells t_draft_n t_draft_cells t_keeps_n t_keeps_cells t_twisting_modulus t_twisting_values) H → va_D A (w_X10_times Y h_t B_t B_t_current B_t_draft B_t_keeps B_t_keeps_e B_t_twisting t_toldCount t_current_n t_current_cells t_draft_n t_draft_cells t_keeps_n t_keeps_cells t_twisting_modulus t_twisting_values) → va_S A s.heap H locs → lv_has ls 6 [(0, .ref h_t), (2, .ref (B_t_keeps 0)), (3, .int x3), (4, .int x4), (5, .int x5)] → W p l e R s m args below meth c H locs 0 0 Q (F0 m 78 ls []) := ⟨_, hB78 x5 t_draft_cells hI, fun x5 t_draft_cells H locs ls hh hP hD hS hl => ih x5 t_draft_cells H locs ls hh.1 (Nat.lt_of_lt_of_le hh.2 (Nat.le_of_lt_succ hm)) hP hD hS hl⟩
                  refine lv_iload hx hb dX10_times_78 (lv_at hl 4 rfl) ?_
                  refine lv_aload_n hx hb dX10_times_80 rfl (lv_at hl 0 rfl) ?_
                  refine va_get (D := G) (ci := 9) (v := .ref (B_t 1)) (C := RX10) (T := TX10) (N := 15) hx hb hts inX10 hown hK hP 0 rfl rfl 1 (by decide) hf18 (fun _ h9 => h9) rfl dX10_times_81 ?_
                  refine va_getN (D := G) (ci := 6) (v := .int t_draft_n) (C := RX7) (T := TX7) (N := 2) hx hb hts inX7 hown hK hP 3 rfl rfl 1 (by decide) (hE.nest args 0 _ rfl) (fun _ h9 => h9) rfl dX10_times_84 ?_
                  obtain ⟨ht, hf⟩ := h
                  refine lv_icmp_ge (tgt := 137) hx hb dX10_times_87 (by decide) (fun c9 => ?_) (fun c9 => ?_)
                  · have h := ht c9
                    refine lv_iinc (v := (x4 + 1)) (lv' := [(4, .int (x4 + 1)), (0, .ref h_t), (2, .ref (B_t_keeps 0)), (3, .int x3), (5, .int x5)]) hx hb dX10_times_137 hl (k := 3) rfl rfl (by decide) rfl (fun ls hl => ?_)
                    refine lv_goto (tgt := 63) hx hb dX10_times_140 (by decide) ?_
                    exact rec63 (x4 + 1) t_draft_cells H locs ls h hP hD hS (lv_sub hl [1, 2, 3, 0] rfl)
                  · have h := hf c9
                    refine lv_aload_n hx hb dX10_times_90 rfl (lv_at hl 0 rfl) ?_
                    refine va_get (D := G) (ci := 9) (v := .ref (B_t 1)) (C := RX10) (T := TX10) (N := 15) hx hb hts inX10 hown hK hP 0 rfl rfl 1 (by decide) hf18 (fun _ h9 => h9) rfl dX10_times_91 ?_
                    refine lv_iload hx hb dX10_times_94 (lv_at hl 3 rfl) ?_
                    refine lv_iload hx hb dX10_times_96 (lv_at hl 4 rfl) ?_
                    refine lv_iload_n hx hb dX10_times_98 rfl (lv_at hl 2 rfl) ?_
                    refine lv_aload_n hx hb dX10_times_99 rfl (lv_at hl 0 rfl) ?_
                    refine va_get (D := G) (ci := 9) (v := .ref (B_t 0)) (C := RX10) (T := TX10) (N := 15) hx hb hts inX10 hown hK hP 0 rfl rfl 0 (by decide) hf14 (fun _ h9 => h9) rfl dX10_times_100 ?_
                    refine lv_iload hx hb dX10_times_103 (lv_at hl 3 rfl) ?_
                    refine lv_iload_n hx hb dX10_times_105 rfl (lv_at hl 2 rfl) ?_
                    obtain ⟨hne, h⟩ := h
                    refine lv_idiv hx hb dX10_times_106 hne ?_
                    refine lv_iload hx hb dX10_times_107 (lv_at hl 4 rfl) ?_
                    refine lv_iload_n hx hb dX10_times_109 rfl (lv_at hl 2 rfl) ?_
                    obtain ⟨hne, h⟩ := h
                    refine lv_idiv hx hb dX10_times_110 hne ?_
                    refine mc_iV ⟨hx, hb, hml, hown, hts⟩ hK hE hA hP hD hS (c_X7_turned l G Y tF H.size (B_t 0) B_t_current t_current_n t_current_cells (x4 / x3) (x5 / x3) h) (cwV 2 hts gX10_times_X7_turned rfl rfl rfl (by decide +kernel) ⟨Nat.le_trans (by decide) hRf, Nat.le_trans (by decide) hRl⟩) (fun u => (w_X10_times Y h_t B_t B_t_current B_t_draft B_t_keeps B_t_keeps_e B_t_twisting t_toldCount t_current_n t_current_cells t_draft_n t_draft_cells t_keeps_n t_keeps_cells t_twisting_modulus t_twisting_values)) [1, 2] [0, 3, 4, 5, 6, 7, 8, 9, 10, 11, 12, 13, 14, 15] [0, 14, 15, 1, 2, 3, 4, 5, 6, 7, 8, 9, 10, 11, 12, 13] rfl rfl rfl rfl (by decide) (fun _ => rfl) rfl 1 6 rfl rfl rfl rfl hl.1 rfl (Nat.le_of_ble_eq_true rfl) dX10_times_111 (fun r111 u H locs h hP hD hS => ?_)
                    try dsimp only at h
                    have hP : va_P G vwCl (w_X10_times Y h_t B_t B_t_current B_t_draft B_t_keeps B_t_keeps_e B_t_twisting t_toldCount t_current_n t_current_cells t_draft_n t_draft_cells t_keeps_n t_keeps_cells t_twisting_modulus t_twisting_values) H := hP
                    have hD : va_D A (w_X10_times Y h_t B_t B_t_current B_t_draft B_t_keeps B_t_keeps_e B_t_twisting t_toldCount t_current_n t_current_cells t_draft_n t_draft_cells t_keeps_n t_keeps_cells t_twisting_modulus t_twisting_values) := hD
                    refine lv_imul hx hb dX10_times_114 ?_
                    refine lv_aload_n hx hb dX10_times_115 rfl (lv_at hl 1 rfl) ?_
                    refine lv_iload hx hb dX10_times_116 (lv_at hl 3 rfl) ?_
                    refine lv_iload_n hx hb dX10_times_118 rfl (lv_at hl 2 rfl) ?_
                    obtain ⟨hne, h⟩ := h
                    refine lv_irem hx hb dX10_times_119 hne ?_
                    refine lv_iload hx hb dX10_times_120 (lv_at hl 4 rfl) ?_
                    refine lv_iload_n hx hb dX10_times_122 rfl (lv_at hl 2 rfl) ?_
                    obtain ⟨hne, h⟩ := h
                    refine lv_irem hx hb dX10_times_123 hne ?_
                    refine mc_iV ⟨hx, hb, hml, hown, hts⟩ hK hE hA hP hD hS (c_X7_turned l G Y tF H.size (B_t_keeps 0) (B_t_keeps_e 0) (t_keeps_n 0) (t_keeps_cells 0) (x4 - x4 / x3 * x3) (x5 - x5 / x3 * x3) h) (cwV 2 hts gX10_times_X7_turned rfl rfl rfl (by decide +kernel) ⟨Nat.le_trans (by decide) hRf, Nat.le_trans (by decide) hRl⟩) (fun u => (w_X10_times Y h_t B_t B_t_current B_t_draft B_t_keeps B_t_keeps_e B_t_twisting t_toldCount t_current_n t_current_cells t_draft_n t_draft_cells t_keeps_n t_keeps_cells t_twisting_modulus t_twisting_values)) [6, 7] [0, 1, 2, 3, 4, 5, 8, 9, 10, 11, 12, 13, 14, 15] [0, 1, 2, 3, 4, 5, 14, 15, 6, 7, 8, 9, 10, 11, 12, 13] rfl rfl rfl rfl (by decide) (fun _ => rfl) rfl 6 6 rfl rfl rfl rfl hl.1 rfl (Nat.le_of_ble_eq_true rfl) dX10_times_124 (fun r124 u H locs h hP hD hS => ?_)
                    try dsimp only at h
                    have hP : va_P G vwCl (w_X10_times Y h_t B_t B_t_current B_t_draft B_t_keeps B_t_keeps_e B_t_twisting t_toldCount t_current_n t_current_cells t_draft_n t_draft_cells t_keeps_n t_keeps_cells t_twisting_modulus t_twisting_values) H := hP
                    have hD : va_D A (w_X10_times Y h_t B_t B_t_current B_t_draft B_t_keeps B_t_keeps_e B_t_twisting t_toldCount t_current_n t_current_cells t_draft_n t_draft_cells t_keeps_n t_keeps_cells t_twisting_modulus t_twisting_values) := hD
                    refine lv_iadd hx hb dX10_times_127 ?_
                    refine mc_vV ⟨hx, hb, hml, hown, hts⟩ hK hE hA hP hD hS (c_X7_put l G Y tF H.size (B_t 1) B_t_draft t_draft_n t_draft_cells x4 x5 ((x3 * r111) + r124) h) (cwV 3 hts gX10_times_X7_put rfl rfl rfl (by decide +kernel) ⟨Nat.le_trans (by decide) hRf, Nat.le_trans (by decide) hRl⟩) (fun u => (w_X10_times Y h_t B_t B_t_current B_t_draft B_t_keeps B_t_keeps_e B_t_twisting t_toldCount t_current_n t_current_cells t_draft_n u t_keeps_n t_keeps_cells t_twisting_modulus t_twisting_values)) [3, 4] [0, 1, 2, 5, 6, 7, 8, 9, 10, 11, 12, 13, 14, 15] [0, 1, 2, 14, 15, 3, 4, 5, 6, 7, 8, 9, 10, 11, 12, 13] rfl rfl rfl rfl (by decide) (fun _ => rfl) rfl 3 6 rfl rfl rfl rfl hl.1 rfl (Nat.le_of_ble_eq_true rfl) dX10_times_128 (fun u H locs h hP hD hS => ?_)
                    obtain ⟨t_draft_cells_128, rfl⟩ : ∃ z, z = u := ⟨_, rfl⟩
                    try dsimp only at h
                    have hP : va_P G vwCl (w_X10_times Y h_t B_t B_t_current B_t_draft B_t_keeps B_t_keeps_e B_t_twisting t_toldCount t_current_n t_current_cells t_draft_n t_draft_cells_128 t_keeps_n t_keeps_cells t_twisting_modulus t_twisting_values) H := hP
                    have hD : va_D A (w_X10_times Y h_t B_t B_t_current B_t_draft B_t_keeps B_t_keeps_e B_t_twisting t_toldCount t_current_n t_current_cells t_draft_n t_draft_cells_128 t_keeps_n t_keeps_cells t_twisting_modulus t_twisting_values) := hD
                    refine lv_iinc (v := (x5 + 1)) (lv' := [(5, .int (x5 + 1)), (0, .ref h_t), (2, .ref (B_t_keeps 0)), (3, .int x3), (4, .int x4)]) hx hb dX10_times_131 hl (k := 4) rfl rfl (by decide) rfl (fun ls hl => ?_)
                    refine lv_goto (tgt := 78) hx hb dX10_times_134 (by decide) ?_
                    exact rec78 (x5 + 1) t_draft_cells_128 H locs ls h hP hD hS (lv_sub hl [1, 2, 3, 4, 0] rfl)
              exact L78 x4 I78 m78 hB78 _ (0 : Int32) t_draft_cells H locs ls hI78 (Nat.lt_succ_self _) hP hD hS (lv_sub hl [1, 2, 3, 4, 0] rfl)
        exact L63 (t_keeps_n 0) t_current_n t_current_cells (t_current_n * (t_keeps_n 0)) t_twisting_values I63 m63 hB63 _ (0 : Int32) t_draft_cells H locs ls hI63 (Nat.lt_succ_self _) hP hD hS (lv_sub hl [3, 2, 1, 0] rfl)
      · have h := hf c9
        refine lv_iconst (v := -1) hx hb dX10_times_30 (by decide) ?_
        exact hret (-1 : Int32) t_current_n t_current_cells t_draft_n t_draft_cells t_twisting_values H locs ls _ hP hD hS h dX10_times_31
    · clear hj9
      refine W.eq (g2 := F0 m 21 ls [.ref (B_t_keeps 1), .int t_current_n]) rfl ?_
      refine va_getN (D := G) (ci := 6) (v := .int (t_keeps_n 1)) (C := RX7) (T := TX7) (N := 2) hx hb hts inX7 hown hK hP 8 rfl rfl 1 (by decide) (hE.nest args 0 _ rfl) (fun _ h9 => h9) rfl dX10_times_21 ?_
      refine lv_imul hx hb dX10_times_24 ?_
      refine lv_bipush (v := 8) hx hb dX10_times_25 (by decide) ?_
      obtain ⟨ht, hf⟩ := h
      refine lv_icmp_le (tgt := 32) hx hb dX10_times_27 (by decide) (fun c9 => ?_) (fun c9 => ?_)
      · have h := ht c9
        refine lv_aload_n hx hb dX10_times_32 rfl (lv_at hl 0 rfl) ?_
        refine va_get (D := G) (ci := 9) (v := .ref (B_t 3)) (C := RX10) (T := TX10) (N := 15) hx hb hts inX10 hown hK hP 0 rfl rfl 3 (by decide) hf24 (fun _ h9 => h9) rfl dX10_times_33 ?_
        refine lv_iload_n hx hb dX10_times_36 rfl (lv_at hl 1 rfl) ?_
        obtain ⟨hin, h⟩ := h
        refine va_aldq hx hb hK hP 5 2 rfl rfl hin dX10_times_37 ?_
        simp only [e8]
        clear hin
        refine W.eq (g2 := F0 m 38 ls [.ref (B_t_keeps 1)]) rfl ?_
        refine lv_astore_n (lv' := [(2, .ref (B_t_keeps 1)), (0, .ref h_t), (1, .int x1)]) hx hb dX10_times_38 rfl hl (by decide) rfl (fun ls hl => ?_)
        refine lv_aload_n hx hb dX10_times_39 rfl (lv_at hl 0 rfl) ?_
        refine va_getN (D := G) (ci := 6) (v := .int (t_keeps_n 1)) (C := RX7) (T := TX7) (N := 2) hx hb hts inX7 hown hK hP 8 rfl rfl 1 (by decide) (hE.nest args 0 _ rfl) (fun _ h9 => h9) rfl dX10_times_40 ?_
        refine lv_istore_n (lv' := [(3, .int (t_keeps_n 1)), (2, .ref (B_t_keeps 1)), (0, .ref h_t), (1, .int x1)]) hx hb dX10_times_43 rfl hl (by decide) rfl (fun ls hl => ?_)
        refine lv_aload_n hx hb dX10_times_44 rfl (lv_at hl 2 rfl) ?_
        refine va_get (D := G) (ci := 9) (v := .ref (B_t 1)) (C := RX10) (T := TX10) (N := 15) hx hb hts inX10 hown hK hP 0 rfl rfl 1 (by decide) hf18 (fun _ h9 => h9) rfl dX10_times_45 ?_
        refine lv_aload_n hx hb dX10_times_48 rfl (lv_at hl 2 rfl) ?_
        refine va_get (D := G) (ci := 9) (v := .ref (B_t 0)) (C := RX10) (T := TX10) (N := 15) hx hb hts inX10 hown hK hP 0 rfl rfl 0 (by decide) hf14 (fun _ h9 => h9) rfl dX10_times_49 ?_
        refine va_getN (D := G) (ci := 6) (v := .int t_current_n) (C := RX7) (T := TX7) (N := 2) hx hb hts inX7 hown hK hP 1 rfl rfl 1 (by decide) (hE.nest args 0 _ rfl) (fun _ h9 => h9) rfl dX10_times_52 ?_
        refine lv_iload_n hx hb dX10_times_55 rfl (lv_at hl 0 rfl) ?_
        refine lv_imul hx hb dX10_times_56 ?_
        refine va_putN (D := G) (ci := 6) (v := .int (t_current_n * (t_keeps_n 1))) (ty := .int) (C := RX7) (T := TX7) (N := 2) hx hb hts inX7 tyX7 tyX7_ok nmX7 hown hK hP hD hS 3 rfl rfl 1 (by decide) (hE.nest args 0 _ rfl) (fun _ h9 => h9) rfl (by decide +kernel) rfl rfl (Nat.le_of_ble_eq_true rfl) dX10_times_57 (fun H locs hP hD hS => ?_)
        have hP : va_P G vwCl (w_X10_times Y h_t B_t B_t_current B_t_draft B_t_keeps B_t_keeps_e B_t_twisting t_toldCount t_current_n t_current_cells (t_current_n * (t_keeps_n 1)) t_draft_cells t_keeps_n t_keeps_cells t_twisting_modulus t_twisting_values) H := hP
        have hD : va_D A (w_X10_times Y h_t B_t B_t_current B_t_draft B_t_keeps B_t_keeps_e B_t_twisting t_toldCount t_current_n t_current_cells (t_current_n * (t_keeps_n 1)) t_draft_cells t_keeps_n t_keeps_cells t_twisting_modulus t_twisting_values) := hD
        refine lv_iconst (v := 0) hx hb dX10_times_60 (by decide) ?_
        refine lv_istore (lv' := [(4, .int (0 : Int32)), (3, .int (t_keeps_n 1)), (2, .ref (B_t_keeps 1)), (0, .ref h_t), (1, .int x1)]) hx hb dX10_times_61 hl (by decide) rfl (fun ls hl => ?_)
        obtain ⟨I63, m63, hI63, hB63⟩ := h
        have L63 : ∀ (x3 : Int32) (t_current_n : Int32) (t_current_cells : Nat → Int32) (t_draft_n : Int32) (t_twisting_values : Nat → Int32) (I63 : Int32 → (Nat → Int32) → Prop) (m63 : Int32 → (Nat → Int32) → Nat), (∀ (x4 : Int32) (t_draft_cells : Nat → Int32), I63 x4 t_draft_cells → pX10_times_63 t_keeps_n t_keeps_cells K 1 x3 t_current_n t_current_cells t_draft_n t_twisting_values x4 t_draft_cells (fun x4' t_draft_cells' => I63 x4' t_draft_cells' ∧ m63 x4' t_draft_cells' < m63 x4 t_draft_cells)) → ∀ (n : Nat) (x4 : Int32) (t_draft_cells : Nat → Int32) (H : Heap) (locs : List Loc) (ls : Array Slot), I63 x4 t_draft_cells → m63 x4 t_draft_cells < n → va_P G vwCl (w_X10_times Y h_t B_t B_t_current B_t_draft B_t_keeps B_t_keeps_e B_t_twisting t_toldCount t_current_n t_current_cells t_draft_n t_draft_cells t_keeps_n t_keeps_cells t_twisting_modulus t_twisting_values) H → va_D A (w_X10_times Y h_t B_t B_t_current B_t_draft B_t_keeps B_t_keeps_e B_t_twisting t_toldCount t_current_n t_current_cells t_draft_n t_draft_cells t_keeps_n t_keeps_cells t_twisting_modulus t_twisting_values) → va_S A s.heap H locs → lv_has ls 6 [(0, .ref h_t), (2, .ref (B_t_keeps 1)), (3, .int x3), (4, .int x4)] → W p l e R s m args below meth c H locs 0 0 Q (F0 m 63 ls []) := by
          intro x3 t_current_n t_current_cells t_draft_n t_twisting_values I63 m63 hB63 n
          induction n with
          | zero => intro x4 t_draft_cells H locs ls _ hm; exact absurd hm (Nat.not_lt_zero _)
          | succ n ih =>
            intro x4 t_draft_cells H locs ls hI hm hP hD hS hl
            obtain ⟨R63, h, rec63⟩ : ∃ R63 : Int32 → (Nat → Int32) → Prop, pX10_times_63 t_keeps_n t_keeps_cells K 1 x3 t_current_n t_current_cells t_draft_n t_twisting_values x4 t_draft_cells R63 ∧ ∀ (x4 : Int32) (t_draft_cells : Nat → Int32) (H : Heap) (locs : List Loc) (ls : Array Slot), R63 x4 t_draft_cells → va_P G vwCl (w_X10_times Y h_t B_t B_t_current B_t_draft B_t_keeps B_t_keeps_e B_t_twisting t_toldCount t_current_n t_current_cells t_draft_n t_draft_cells t_keeps_n t_keeps_cells t_twisting_modulus t_twisting_values) H → va_D A (w_X10_times Y h_t B_t B_t_current B_t_draft B_t_keeps B_t_keeps_e B_t_twisting t_toldCount t_current_n t_current_cells t_draft_n t_draft_cells t_keeps_n t_keeps_cells t_twisting_modulus t_twisting_values) → va_S A s.heap H locs → lv_has ls 6 [(0, .ref h_t), (2, .ref (B_t_keeps 1)), (3, .int x3), (4, .int x4)] → W p l e R s m args below meth c H locs 0 0 Q (F0 m 63 ls []) := ⟨_, hB63 x4 t_draft_cells hI, fun x4 t_draft_cells H locs ls hh hP hD hS hl => ih x4 t_draft_cells H locs ls hh.1 (Nat.lt_of_lt_of_le hh.2 (Nat.le_of_lt_succ hm)) hP hD hS hl⟩
            refine lv_iload hx hb dX10_times_63 (lv_at hl 3 rfl) ?_
            refine lv_aload_n hx hb dX10_times_65 rfl (lv_at hl 0 rfl) ?_
            refine va_get (D := G) (ci := 9) (v := .ref (B_t 1)) (C := RX10) (T := TX10) (N := 15) hx hb hts inX10 hown hK hP 0 rfl rfl 1 (by decide) hf18 (fun _ h9 => h9) rfl dX10_times_66 ?_
            refine va_getN (D := G) (ci := 6) (v := .int t_draft_n) (C := RX7) (T := TX7) (N := 2) hx hb hts inX7 hown hK hP 3 rfl rfl 1 (by decide) (hE.nest args 0 _ rfl) (fun _ h9 => h9) rfl dX10_times_69 ?_
            obtain ⟨ht, hf⟩ := h
            refine lv_icmp_ge (tgt := 143) hx hb dX10_times_72 (by decide) (fun c9 => ?_) (fun c9 => ?_)
            · have h := ht c9
              refine lv_aload_n hx hb dX10_times_143 rfl (lv_at hl 0 rfl) ?_
              refine mc_iV ⟨hx, hb, hml, hown, hts⟩ hK hE hA hP hD hS (c_X10_adoptDraft l G Y tF H.size h_t B_t B_t_current B_t_draft B_t_twisting t_toldCount t_current_n t_current_cells t_draft_n t_draft_cells t_twisting_modulus t_twisting_values h) (cwV 0 hts gX10_times_X10_adoptDraft rfl rfl rfl (by decide +kernel) ⟨Nat.le_trans (by decide) hRf, Nat.le_trans (by decide) hRl⟩) (fun u => (w_X10_times Y h_t B_t B_t_current B_t_draft B_t_keeps B_t_keeps_e B_t_twisting t_toldCount u.1 u.2.1 t_draft_n t_draft_cells t_keeps_n t_keeps_cells t_twisting_modulus u.2.2)) [0, 1, 2, 3, 4, 14, 15] [5, 6, 7, 8, 9, 10, 11, 12, 13] [9, 10, 11, 12, 13, 0, 1, 2, 3, 4, 5, 6, 7, 8, 14, 15] rfl rfl rfl rfl (by decide) (fun _ => rfl) rfl 0 9 rfl rfl rfl rfl hl.1 rfl (Nat.le_of_ble_eq_true rfl) dX10_times_144 (fun r144 u H locs h hP hD hS => ?_)
              obtain ⟨t_current_n_144, t_current_cells_144, t_twisting_values_144⟩ := u
              try dsimp only at h
              have hP : va_P G vwCl (w_X10_times Y h_t B_t B_t_current B_t_draft B_t_keeps B_t_keeps_e B_t_twisting t_toldCount t_current_n_144 t_current_cells_144 t_draft_n t_draft_cells t_keeps_n t_keeps_cells t_twisting_modulus t_twisting_values_144) H := hP
              have hD : va_D A (w_X10_times Y h_t B_t B_t_current B_t_draft B_t_keeps B_t_keeps_e B_t_twisting t_toldCount t_current_n_144 t_current_cells_144 t_draft_n t_draft_cells t_keeps_n t_keeps_cells t_twisting_modulus t_twisting_values_144) := hD
              exact hret r144 t_current_n_144 t_current_cells_144 t_draft_n t_draft_cells t_twisting_values_144 H locs ls _ hP hD hS h dX10_times_147
            · have h := hf c9
              refine lv_iconst (v := 0) hx hb dX10_times_75 (by decide) ?_
              refine lv_istore (lv' := [(5, .int (0 : Int32)), (0, .ref h_t), (2, .ref (B_t_keeps 1)), (3, .int x3), (4, .int x4)]) hx hb dX10_times_76 hl (by decide) rfl (fun ls hl => ?_)
              obtain ⟨I78, m78, hI78, hB78⟩ := h
              have L78 : ∀ (x4 : Int32) (I78 : Int32 → (Nat → Int32) → Prop) (m78 : Int32 → (Nat → Int32) → Nat), (∀ (x5 : Int32) (t_draft_cells : Nat → Int32), I78 x5 t_draft_cells → pX10_times_78 t_keeps_n t_keeps_cells R63 K 1 x3 t_current_n t_current_cells t_draft_n t_twisting_values x4 x5 t_draft_cells (fun x5' t_draft_cells' => I78 x5' t_draft_cells' ∧ m78 x5' t_draft_cells' < m78 x5 t_draft_cells)) → ∀ (n : Nat) (x5 : Int32) (t_draft_cells : Nat → Int32) (H : Heap) (locs : List Loc) (ls : Array Slot), I78 x5 t_draft_cells → m78 x5 t_draft_cells < n → va_P G vwCl (w_X10_times Y h_t B_t B_t_current B_t_draft B_t_keeps B_t_keeps_e B_t_twisting t_toldCount t_current_n t_current_cells t_draft_n t_draft_cells t_keeps_n t_keeps_cells t_twisting_modulus t_twisting_values) H → va_D A (w_X10_times Y h_t B_t B_t_current B_t_draft B_t_keeps B_t_keeps_e B_t_twisting t_toldCount t_current_n t_current_cells t_draft_n t_draft_cells t_keeps_n t_keeps_cells t_twisting_modulus t_twisting_values) → va_S A s.heap H locs → lv_has ls 6 [(0, .ref h_t), (2, .ref (B_t_keeps 1)), (3, .int x3), (4, .int x4), (5, .int x5)] → W p l e R s m args below meth c H locs 0 0 Q (F0 m 78 ls []) := by
                intro x4 I78 m78 hB78 n
                induction n with
                | zero => intro x5 t_draft_cells H locs ls _ hm; exact absurd hm (Nat.not_lt_zero _)
                | succ n ih =>
                  intro x5 t_draft_cells H locs ls hI hm hP hD hS hl
                  obtain ⟨R78, h, rec78⟩ : ∃ R78 : Int32 → (Nat → Int32) → Prop, pX10_times_78 t_keeps_n t_keeps_cells R63 K 1 x3 t_current_n t_current_cells t_draft_n t_twisting_values x4 x5 t_draft_cells R78 ∧ ∀ (x5 : Int32) (t_draft_cells : Nat → Int32) (H : Heap) (locs : List Loc) (ls : Array Slot), R78 x5 t_draft_cells → va_P G vwCl (w_X10_times Y h_t B_t B_t_current B_t_draft B_t_keeps B_t_keeps_e B_t_twisting t_toldCount t_current_n t_current_cells t_draft_n t_draft_cells t_keeps_n t_keeps_cells t_twisting_modulus t_twisting_values) H → va_D A (w_X10_times Y h_t B_t B_t_current B_t_draft B_t_keeps B_t_keeps_e B_t_twisting t_toldCount t_current_n t_current_cells t_draft_n t_draft_cells t_keeps_n t_keeps_cells t_twisting_modulus t_twisting_values) → va_S A s.heap H locs → lv_has ls 6 [(0, .ref h_t), (2, .ref (B_t_keeps 1)), (3, .int x3), (4, .int x4), (5, .int x5)] → W p l e R s m args below meth c H locs 0 0 Q (F0 m 78 ls []) := ⟨_, hB78 x5 t_draft_cells hI, fun x5 t_draft_cells H locs ls hh hP hD hS hl => ih x5 t_draft_cells H locs ls hh.1 (Nat.lt_of_lt_of_le hh.2 (Nat.le_of_lt_succ hm)) hP hD hS hl⟩
                  refine lv_iload hx hb dX10_times_78 (lv_at hl 4 rfl) ?_
                  refine lv_aload_n hx hb dX10_times_80 rfl (lv_at hl 0 rfl) ?_
                  refine va_get (D := G) (ci := 9) (v := .ref (B_t 1)) (C := RX10) (T := TX10) (N := 15) hx hb hts inX10 hown hK hP 0 rfl rfl 1 (by decide) hf18 (fun _ h9 => h9) rfl dX10_times_81 ?_
                  refine va_getN (D := G) (ci := 6) (v := .int t_draft_n) (C := RX7) (T := TX7) (N := 2) hx hb hts inX7 hown hK hP 3 rfl rfl 1 (by decide) (hE.nest args 0 _ rfl) (fun _ h9 => h9) rfl dX10_times_84 ?_
                  obtain ⟨ht, hf⟩ := h
                  refine lv_icmp_ge (tgt := 137) hx hb dX10_times_87 (by decide) (fun c9 => ?_) (fun c9 => ?_)
                  · have h := ht c9
                    refine lv_iinc (v := (x4 + 1)) (lv' := [(4, .int (x4 + 1)), (0, .ref h_t), (2, .ref (B_t_keeps 1)), (3, .int x3), (5, .int x5)]) hx hb dX10_times_137 hl (k := 3) rfl rfl (by decide) rfl (fun ls hl => ?_)
                    refine lv_goto (tgt := 63) hx hb dX10_times_140 (by decide) ?_
                    exact rec63 (x4 + 1) t_draft_cells H locs ls h hP hD hS (lv_sub hl [1, 2, 3, 0] rfl)
                  · have h := hf c9
                    refine lv_aload_n hx hb dX10_times_90 rfl (lv_at hl 0 rfl) ?_
                    refine va_get (D := G) (ci := 9) (v := .ref (B_t 1)) (C := RX10) (T := TX10) (N := 15) hx hb hts inX10 hown hK hP 0 rfl rfl 1 (by decide) hf18 (fun _ h9 => h9) rfl dX10_times_91 ?_
                    refine lv_iload hx hb dX10_times_94 (lv_at hl 3 rfl) ?_
                    refine lv_iload hx hb dX10_times_96 (lv_at hl 4 rfl) ?_
                    refine lv_iload_n hx hb dX10_times_98 rfl (lv_at hl 2 rfl) ?_
                    refine lv_aload_n hx hb dX10_times_99 rfl (lv_at hl 0 rfl) ?_
                    refine va_get (D := G) (ci := 9) (v := .ref (B_t 0)) (C := RX10) (T := TX10) (N := 15) hx hb hts inX10 hown hK hP 0 rfl rfl 0 (by decide) hf14 (fun _ h9 => h9) rfl dX10_times_100 ?_
                    refine lv_iload hx hb dX10_times_103 (lv_at hl 3 rfl) ?_
                    refine lv_iload_n hx hb dX10_times_105 rfl (lv_at hl 2 rfl) ?_
                    obtain ⟨hne, h⟩ := h
                    refine lv_idiv hx hb dX10_times_106 hne ?_
                    refine lv_iload hx hb dX10_times_107 (lv_at hl 4 rfl) ?_
                    refine lv_iload_n hx hb dX10_times_109 rfl (lv_at hl 2 rfl) ?_
                    obtain ⟨hne, h⟩ := h
                    refine lv_idiv hx hb dX10_times_110 hne ?_
                    refine mc_iV ⟨hx, hb, hml, hown, hts⟩ hK hE hA hP hD hS (c_X7_turned l G Y tF H.size (B_t 0) B_t_current t_current_n t_current_cells (x4 / x3) (x5 / x3) h) (cwV 2 hts gX10_times_X7_turned rfl rfl rfl (by decide +kernel) ⟨Nat.le_trans (by decide) hRf, Nat.le_trans (by decide) hRl⟩) (fun u => (w_X10_times Y h_t B_t B_t_current B_t_draft B_t_keeps B_t_keeps_e B_t_twisting t_toldCount t_current_n t_current_cells t_draft_n t_draft_cells t_keeps_n t_keeps_cells t_twisting_modulus t_twisting_values)) [1, 2] [0, 3, 4, 5, 6, 7, 8, 9, 10, 11, 12, 13, 14, 15] [0, 14, 15, 1, 2, 3, 4, 5, 6, 7, 8, 9, 10, 11, 12, 13] rfl rfl rfl rfl (by decide) (fun _ => rfl) rfl 1 6 rfl rfl rfl rfl hl.1 rfl (Nat.le_of_ble_eq_true rfl) dX10_times_111 (fun r111 u H locs h hP hD hS => ?_)
                    try dsimp only at h
                    have hP : va_P G vwCl (w_X10_times Y h_t B_t B_t_current B_t_draft B_t_keeps B_t_keeps_e B_t_twisting t_toldCount t_current_n t_current_cells t_draft_n t_draft_cells t_keeps_n t_keeps_cells t_twisting_modulus t_twisting_values) H := hP
                    have hD : va_D A (w_X10_times Y h_t B_t B_t_current B_t_draft B_t_keeps B_t_keeps_e B_t_twisting t_toldCount t_current_n t_current_cells t_draft_n t_draft_cells t_keeps_n t_keeps_cells t_twisting_modulus t_twisting_values) := hD
                    refine lv_imul hx hb dX10_times_114 ?_
                    refine lv_aload_n hx hb dX10_times_115 rfl (lv_at hl 1 rfl) ?_
                    refine lv_iload hx hb dX10_times_116 (lv_at hl 3 rfl) ?_
                    refine lv_iload_n hx hb dX10_times_118 rfl (lv_at hl 2 rfl) ?_
                    obtain ⟨hne, h⟩ := h
                    refine lv_irem hx hb dX10_times_119 hne ?_
                    refine lv_iload hx hb dX10_times_120 (lv_at hl 4 rfl) ?_
                    refine lv_iload_n hx hb dX10_times_122 rfl (lv_at hl 2 rfl) ?_
                    obtain ⟨hne, h⟩ := h
                    refine lv_irem hx hb dX10_times_123 hne ?_
                    refine mc_iV ⟨hx, hb, hml, hown, hts⟩ hK hE hA hP hD hS (c_X7_turned l G Y tF H.size (B_t_keeps 1) (B_t_keeps_e 1) (t_keeps_n 1) (t_keeps_cells 1) (x4 - x4 / x3 * x3) (x5 - x5 / x3 * x3) h) (cwV 2 hts gX10_times_X7_turned rfl rfl rfl (by decide +kernel) ⟨Nat.le_trans (by decide) hRf, Nat.le_trans (by decide) hRl⟩) (fun u => (w_X10_times Y h_t B_t B_t_current B_t_draft B_t_keeps B_t_keeps_e B_t_twisting t_toldCount t_current_n t_current_cells t_draft_n t_draft_cells t_keeps_n t_keeps_cells t_twisting_modulus t_twisting_values)) [8, 9] [0, 1, 2, 3, 4, 5, 6, 7, 10, 11, 12, 13, 14, 15] [0, 1, 2, 3, 4, 5, 6, 7, 14, 15, 8, 9, 10, 11, 12, 13] rfl rfl rfl rfl (by decide) (fun _ => rfl) rfl 8 6 rfl rfl rfl rfl hl.1 rfl (Nat.le_of_ble_eq_true rfl) dX10_times_124 (fun r124 u H locs h hP hD hS => ?_)
                    try dsimp only at h
                    have hP : va_P G vwCl (w_X10_times Y h_t B_t B_t_current B_t_draft B_t_keeps B_t_keeps_e B_t_twisting t_toldCount t_current_n t_current_cells t_draft_n t_draft_cells t_keeps_n t_keeps_cells t_twisting_modulus t_twisting_values) H := hP
                    have hD : va_D A (w_X10_times Y h_t B_t B_t_current B_t_draft B_t_keeps B_t_keeps_e B_t_twisting t_toldCount t_current_n t_current_cells t_draft_n t_draft_cells t_keeps_n t_keeps_cells t_twisting_modulus t_twisting_values) := hD
                    refine lv_iadd hx hb dX10_times_127 ?_
                    refine mc_vV ⟨hx, hb, hml, hown, hts⟩ hK hE hA hP hD hS (c_X7_put l G Y tF H.size (B_t 1) B_t_draft t_draft_n t_draft_cells x4 x5 ((x3 * r111) + r124) h) (cwV 3 hts gX10_times_X7_put rfl rfl rfl (by decide +kernel) ⟨Nat.le_trans (by decide) hRf, Nat.le_trans (by decide) hRl⟩) (fun u => (w_X10_times Y h_t B_t B_t_current B_t_draft B_t_keeps B_t_keeps_e B_t_twisting t_toldCount t_current_n t_current_cells t_draft_n u t_keeps_n t_keeps_cells t_twisting_modulus t_twisting_values)) [3, 4] [0, 1, 2, 5, 6, 7, 8, 9, 10, 11, 12, 13, 14, 15] [0, 1, 2, 14, 15, 3, 4, 5, 6, 7, 8, 9, 10, 11, 12, 13] rfl rfl rfl rfl (by decide) (fun _ => rfl) rfl 3 6 rfl rfl rfl rfl hl.1 rfl (Nat.le_of_ble_eq_true rfl) dX10_times_128 (fun u H locs h hP hD hS => ?_)
                    obtain ⟨t_draft_cells_128, rfl⟩ : ∃ z, z = u := ⟨_, rfl⟩
                    try dsimp only at h
                    have hP : va_P G vwCl (w_X10_times Y h_t B_t B_t_current B_t_draft B_t_keeps B_t_keeps_e B_t_twisting t_toldCount t_current_n t_current_cells t_draft_n t_draft_cells_128 t_keeps_n t_keeps_cells t_twisting_modulus t_twisting_values) H := hP
                    have hD : va_D A (w_X10_times Y h_t B_t B_t_current B_t_draft B_t_keeps B_t_keeps_e B_t_twisting t_toldCount t_current_n t_current_cells t_draft_n t_draft_cells_128 t_keeps_n t_keeps_cells t_twisting_modulus t_twisting_values) := hD
                    refine lv_iinc (v := (x5 + 1)) (lv' := [(5, .int (x5 + 1)), (0, .ref h_t), (2, .ref (B_t_keeps 1)), (3, .int x3), (4, .int x4)]) hx hb dX10_times_131 hl (k := 4) rfl rfl (by decide) rfl (fun ls hl => ?_)
                    refine lv_goto (tgt := 78) hx hb dX10_times_134 (by decide) ?_
                    exact rec78 (x5 + 1) t_draft_cells_128 H locs ls h hP hD hS (lv_sub hl [1, 2, 3, 4, 0] rfl)
              exact L78 x4 I78 m78 hB78 _ (0 : Int32) t_draft_cells H locs ls hI78 (Nat.lt_succ_self _) hP hD hS (lv_sub hl [1, 2, 3, 4, 0] rfl)
        exact L63 (t_keeps_n 1) t_current_n t_current_cells (t_current_n * (t_keeps_n 1)) t_twisting_values I63 m63 hB63 _ (0 : Int32) t_draft_cells H locs ls hI63 (Nat.lt_succ_self _) hP hD hS (lv_sub hl [3, 2, 1, 0] rfl)
      · have h := hf c9
        refine lv_iconst (v := -1) hx hb dX10_times_30 (by decide) ?_
        exact hret (-1 : Int32) t_current_n t_current_cells t_draft_n t_draft_cells t_twisting_values H locs ls _ hP hD hS h dX10_times_31
    · clear hj9
      refine W.eq (g2 := F0 m 21 ls [.ref (B_t_keeps 2), .int t_current_n]) rfl ?_
      refine va_getN (D := G) (ci := 6) (v := .int (t_keeps_n 2)) (C := RX7) (T := TX7) (N := 2) hx hb hts inX7 hown hK hP 10 rfl rfl 1 (by decide) (hE.nest args 0 _ rfl) (fun _ h9 => h9) rfl dX10_times_21 ?_
      refine lv_imul hx hb dX10_times_24 ?_
      refine lv_bipush (v := 8) hx hb dX10_times_25 (by decide) ?_
      obtain ⟨ht, hf⟩ := h
      refine lv_icmp_le (tgt := 32) hx hb dX10_times_27 (by decide) (fun c9 => ?_) (fun c9 => ?_)
      · have h := ht c9
        refine lv_aload_n hx hb dX10_times_32 rfl (lv_at hl 0 rfl) ?_
        refine va_get (D := G) (ci := 9) (v := .ref (B_t 3)) (C := RX10) (T := TX10) (N := 15) hx hb hts inX10 hown hK hP 0 rfl rfl 3 (by decide) hf24 (fun _ h9 => h9) rfl dX10_times_33 ?_
        refine lv_iload_n hx hb dX10_times_36 rfl (lv_at hl 1 rfl) ?_
        obtain ⟨hin, h⟩ := h
        refine va_aldq hx hb hK hP 5 2 rfl rfl hin dX10_times_37 ?_
        simp only [e8]
        clear hin
        refine W.eq (g2 := F0 m 38 ls [.ref (B_t_keeps 2)]) rfl ?_
        refine lv_astore_n (lv' := [(2, .ref (B_t_keeps 2)), (0, .ref h_t), (1, .int x1)]) hx hb dX10_times_38 rfl hl (by decide) rfl (fun ls hl => ?_)
        refine lv_aload_n hx hb dX10_times_39 rfl (lv_at hl 0 rfl) ?_
        refine va_getN (D := G) (ci := 6) (v := .int (t_keeps_n 2)) (C := RX7) (T := TX7) (N := 2) hx hb hts inX7 hown hK hP 10 rfl rfl 1 (by decide) (hE.nest args 0 _ rfl) (fun _ h9 => h9) rfl dX10_times_40 ?_
        refine lv_istore_n (lv' := [(3, .int (t_keeps_n 2)), (2, .ref (B_t_keeps 2)), (0, .ref h_t), (1, .int x1)]) hx hb dX10_times_43 rfl hl (by decide) rfl (fun ls hl => ?_)
        refine lv_aload_n hx hb dX10_times_44 rfl (lv_at hl 2 rfl) ?_
        refine va_get (D := G) (ci := 9) (v := .ref (B_t 1)) (C := RX10) (T := TX10) (N := 15) hx hb hts inX10 hown hK hP 0 rfl rfl 1 (by decide) hf18 (fun _ h9 => h9) rfl dX10_times_45 ?_
        refine lv_aload_n hx hb dX10_times_48 rfl (lv_at hl 2 rfl) ?_
        refine va_get (D := G) (ci := 9) (v := .ref (B_t 0)) (C := RX10) (T := TX10) (N := 15) hx hb hts inX10 hown hK hP 0 rfl rfl 0 (by decide) hf14 (fun _ h9 => h9) rfl dX10_times_49 ?_
        refine va_getN (D := G) (ci := 6) (v := .int t_current_n) (C := RX7) (T := TX7) (N := 2) hx hb hts inX7 hown hK hP 1 rfl rfl 1 (by decide) (hE.nest args 0 _ rfl) (fun _ h9 => h9) rfl dX10_times_52 ?_
        refine lv_iload_n hx hb dX10_times_55 rfl (lv_at hl 0 rfl) ?_
        refine lv_imul hx hb dX10_times_56 ?_
        refine va_putN (D := G) (ci := 6) (v := .int (t_current_n * (t_keeps_n 2))) (ty := .int) (C := RX7) (T := TX7) (N := 2) hx hb hts inX7 tyX7 tyX7_ok nmX7 hown hK hP hD hS 3 rfl rfl 1 (by decide) (hE.nest args 0 _ rfl) (fun _ h9 => h9) rfl (by decide +kernel) rfl rfl (Nat.le_of_ble_eq_true rfl) dX10_times_57 (fun H locs hP hD hS => ?_)
        have hP : va_P G vwCl (w_X10_times Y h_t B_t B_t_current B_t_draft B_t_keeps B_t_keeps_e B_t_twisting t_toldCount t_current_n t_current_cells (t_current_n * (t_keeps_n 2)) t_draft_cells t_keeps_n t_keeps_cells t_twisting_modulus t_twisting_values) H := hP
        have hD : va_D A (w_X10_times Y h_t B_t B_t_current B_t_draft B_t_keeps B_t_keeps_e B_t_twisting t_toldCount t_current_n t_current_cells (t_current_n * (t_keeps_n 2)) t_draft_cells t_keeps_n t_keeps_cells t_twisting_modulus t_twisting_values) := hD
        refine lv_iconst (v := 0) hx hb dX10_times_60 (by decide) ?_
        refine lv_istore (lv' := [(4, .int (0 : Int32)), (3, .int (t_keeps_n 2)), (2, .ref (B_t_keeps 2)), (0, .ref h_t), (1, .int x1)]) hx hb dX10_times_61 hl (by decide) rfl (fun ls hl => ?_)
        obtain ⟨I63, m63, hI63, hB63⟩ := h
        have L63 : ∀ (x3 : Int32) (t_current_n : Int32) (t_current_cells : Nat → Int32) (t_draft_n : Int32) (t_twisting_values : Nat → Int32) (I63 : Int32 → (Nat → Int32) → Prop) (m63 : Int32 → (Nat → Int32) → Nat), (∀ (x4 : Int32) (t_draft_cells : Nat → Int32), I63 x4 t_draft_cells → pX10_times_63 t_keeps_n t_keeps_cells K 2 x3 t_current_n t_current_cells t_draft_n t_twisting_values x4 t_draft_cells (fun x4' t_draft_cells' => I63 x4' t_draft_cells' ∧ m63 x4' t_draft_cells' < m63 x4 t_draft_cells)) → ∀ (n : Nat) (x4 : Int32) (t_draft_cells : Nat → Int32) (H : Heap) (locs : List Loc) (ls : Array Slot), I63 x4 t_draft_cells → m63 x4 t_draft_cells < n → va_P G vwCl (w_X10_times Y h_t B_t B_t_current B_t_draft B_t_keeps B_t_keeps_e B_t_twisting t_toldCount t_current_n t_current_cells t_draft_n t_draft_cells t_keeps_n t_keeps_cells t_twisting_modulus t_twisting_values) H → va_D A (w_X10_times Y h_t B_t B_t_current B_t_draft B_t_keeps B_t_keeps_e B_t_twisting t_toldCount t_current_n t_current_cells t_draft_n t_draft_cells t_keeps_n t_keeps_cells t_twisting_modulus t_twisting_values) → va_S A s.heap H locs → lv_has ls 6 [(0, .ref h_t), (2, .ref (B_t_keeps 2)), (3, .int x3), (4, .int x4)] → W p l e R s m args below meth c H locs 0 0 Q (F0 m 63 ls []) := by
          intro x3 t_current_n t_current_cells t_draft_n t_twisting_values I63 m63 hB63 n
          induction n with
          | zero => intro x4 t_draft_cells H locs ls _ hm; exact absurd hm (Nat.not_lt_zero _)
          | succ n ih =>
            intro x4 t_draft_cells H locs ls hI hm hP hD hS hl
            obtain ⟨R63, h, rec63⟩ : ∃ R63 : Int32 → (Nat → Int32) → Prop, pX10_times_63 t_keeps_n t_keeps_cells K 2 x3 t_current_n t_current_cells t_draft_n t_twisting_values x4 t_draft_cells R63 ∧ ∀ (x4 : Int32) (t_draft_cells : Nat → Int32) (H : Heap) (locs : List Loc) (ls : Array Slot), R63 x4 t_draft_cells → va_P G vwCl (w_X10_times Y h_t B_t B_t_current B_t_draft B_t_keeps B_t_keeps_e B_t_twisting t_toldCount t_current_n t_current_cells t_draft_n t_draft_cells t_keeps_n t_keeps_cells t_twisting_modulus t_twisting_values) H → va_D A (w_X10_times Y h_t B_t B_t_current B_t_draft B_t_keeps B_t_keeps_e B_t_twisting t_toldCount t_current_n t_current_cells t_draft_n t_draft_cells t_keeps_n t_keeps_cells t_twisting_modulus t_twisting_values) → va_S A s.heap H locs → lv_has ls 6 [(0, .ref h_t), (2, .ref (B_t_keeps 2)), (3, .int x3), (4, .int x4)] → W p l e R s m args below meth c H locs 0 0 Q (F0 m 63 ls []) := ⟨_, hB63 x4 t_draft_cells hI, fun x4 t_draft_cells H locs ls hh hP hD hS hl => ih x4 t_draft_cells H locs ls hh.1 (Nat.lt_of_lt_of_le hh.2 (Nat.le_of_lt_succ hm)) hP hD hS hl⟩
            refine lv_iload hx hb dX10_times_63 (lv_at hl 3 rfl) ?_
            refine lv_aload_n hx hb dX10_times_65 rfl (lv_at hl 0 rfl) ?_
            refine va_get (D := G) (ci := 9) (v := .ref (B_t 1)) (C := RX10) (T := TX10) (N := 15) hx hb hts inX10 hown hK hP 0 rfl rfl 1 (by decide) hf18 (fun _ h9 => h9) rfl dX10_times_66 ?_
            refine va_getN (D := G) (ci := 6) (v := .int t_draft_n) (C := RX7) (T := TX7) (N := 2) hx hb hts inX7 hown hK hP 3 rfl rfl 1 (by decide) (hE.nest args 0 _ rfl) (fun _ h9 => h9) rfl dX10_times_69 ?_
            obtain ⟨ht, hf⟩ := h
            refine lv_icmp_ge (tgt := 143) hx hb dX10_times_72 (by decide) (fun c9 => ?_) (fun c9 => ?_)
            · have h := ht c9
              refine lv_aload_n hx hb dX10_times_143 rfl (lv_at hl 0 rfl) ?_
              refine mc_iV ⟨hx, hb, hml, hown, hts⟩ hK hE hA hP hD hS (c_X10_adoptDraft l G Y tF H.size h_t B_t B_t_current B_t_draft B_t_twisting t_toldCount t_current_n t_current_cells t_draft_n t_draft_cells t_twisting_modulus t_twisting_values h) (cwV 0 hts gX10_times_X10_adoptDraft rfl rfl rfl (by decide +kernel) ⟨Nat.le_trans (by decide) hRf, Nat.le_trans (by decide) hRl⟩) (fun u => (w_X10_times Y h_t B_t B_t_current B_t_draft B_t_keeps B_t_keeps_e B_t_twisting t_toldCount u.1 u.2.1 t_draft_n t_draft_cells t_keeps_n t_keeps_cells t_twisting_modulus u.2.2)) [0, 1, 2, 3, 4, 14, 15] [5, 6, 7, 8, 9, 10, 11, 12, 13] [9, 10, 11, 12, 13, 0, 1, 2, 3, 4, 5, 6, 7, 8, 14, 15] rfl rfl rfl rfl (by decide) (fun _ => rfl) rfl 0 9 rfl rfl rfl rfl hl.1 rfl (Nat.le_of_ble_eq_true rfl) dX10_times_144 (fun r144 u H locs h hP hD hS => ?_)
              obtain ⟨t_current_n_144, t_current_cells_144, t_twisting_values_144⟩ := u
              try dsimp only at h
              have hP : va_P G vwCl (w_X10_times Y h_t B_t B_t_current B_t_draft B_t_keeps B_t_keeps_e B_t_twisting t_toldCount t_current_n_144 t_current_cells_144 t_draft_n t_draft_cells t_keeps_n t_keeps_cells t_twisting_modulus t_twisting_values_144) H := hP
              have hD : va_D A (w_X10_times Y h_t B_t B_t_current B_t_draft B_t_keeps B_t_keeps_e B_t_twisting t_toldCount t_current_n_144 t_current_cells_144 t_draft_n t_draft_cells t_keeps_n t_keeps_cells t_twisting_modulus t_twisting_values_144) := hD
              exact hret r144 t_current_n_144 t_current_cells_144 t_draft_n t_draft_cells t_twisting_values_144 H locs ls _ hP hD hS h dX10_times_147
            · have h := hf c9
              refine lv_iconst (v := 0) hx hb dX10_times_75 (by decide) ?_
              refine lv_istore (lv' := [(5, .int (0 : Int32)), (0, .ref h_t), (2, .ref (B_t_keeps 2)), (3, .int x3), (4, .int x4)]) hx hb dX10_times_76 hl (by decide) rfl (fun ls hl => ?_)
              obtain ⟨I78, m78, hI78, hB78⟩ := h
              have L78 : ∀ (x4 : Int32) (I78 : Int32 → (Nat → Int32) → Prop) (m78 : Int32 → (Nat → Int32) → Nat), (∀ (x5 : Int32) (t_draft_cells : Nat → Int32), I78 x5 t_draft_cells → pX10_times_78 t_keeps_n t_keeps_cells R63 K 2 x3 t_current_n t_current_cells t_draft_n t_twisting_values x4 x5 t_draft_cells (fun x5' t_draft_cells' => I78 x5' t_draft_cells' ∧ m78 x5' t_draft_cells' < m78 x5 t_draft_cells)) → ∀ (n : Nat) (x5 : Int32) (t_draft_cells : Nat → Int32) (H : Heap) (locs : List Loc) (ls : Array Slot), I78 x5 t_draft_cells → m78 x5 t_draft_cells < n → va_P G vwCl (w_X10_times Y h_t B_t B_t_current B_t_draft B_t_keeps B_t_keeps_e B_t_twisting t_toldCount t_current_n t_current_cells t_draft_n t_draft_cells t_keeps_n t_keeps_cells t_twisting_modulus t_twisting_values) H → va_D A (w_X10_times Y h_t B_t B_t_current B_t_draft B_t_keeps B_t_keeps_e B_t_twisting t_toldCount t_current_n t_current_cells t_draft_n t_draft_cells t_keeps_n t_keeps_cells t_twisting_modulus t_twisting_values) → va_S A s.heap H locs → lv_has ls 6 [(0, .ref h_t), (2, .ref (B_t_keeps 2)), (3, .int x3), (4, .int x4), (5, .int x5)] → W p l e R s m args below meth c H locs 0 0 Q (F0 m 78 ls []) := by
                intro x4 I78 m78 hB78 n
                induction n with
                | zero => intro x5 t_draft_cells H locs ls _ hm; exact absurd hm (Nat.not_lt_zero _)
                | succ n ih =>
                  intro x5 t_draft_cells H locs ls hI hm hP hD hS hl
                  obtain ⟨R78, h, rec78⟩ : ∃ R78 : Int32 → (Nat → Int32) → Prop, pX10_times_78 t_keeps_n t_keeps_cells R63 K 2 x3 t_current_n t_current_cells t_draft_n t_twisting_values x4 x5 t_draft_cells R78 ∧ ∀ (x5 : Int32) (t_draft_cells : Nat → Int32) (H : Heap) (locs : List Loc) (ls : Array Slot), R78 x5 t_draft_cells → va_P G vwCl (w_X10_times Y h_t B_t B_t_current B_t_draft B_t_keeps B_t_keeps_e B_t_twisting t_toldCount t_current_n t_current_cells t_draft_n t_draft_cells t_keeps_n t_keeps_cells t_twisting_modulus t_twisting_values) H → va_D A (w_X10_times Y h_t B_t B_t_current B_t_draft B_t_keeps B_t_keeps_e B_t_twisting t_toldCount t_current_n t_current_cells t_draft_n t_draft_cells t_keeps_n t_keeps_cells t_twisting_modulus t_twisting_values) → va_S A s.heap H locs → lv_has ls 6 [(0, .ref h_t), (2, .ref (B_t_keeps 2)), (3, .int x3), (4, .int x4), (5, .int x5)] → W p l e R s m args below meth c H locs 0 0 Q (F0 m 78 ls []) := ⟨_, hB78 x5 t_draft_cells hI, fun x5 t_draft_cells H locs ls hh hP hD hS hl => ih x5 t_draft_cells H locs ls hh.1 (Nat.lt_of_lt_of_le hh.2 (Nat.le_of_lt_succ hm)) hP hD hS hl⟩
                  refine lv_iload hx hb dX10_times_78 (lv_at hl 4 rfl) ?_
                  refine lv_aload_n hx hb dX10_times_80 rfl (lv_at hl 0 rfl) ?_
                  refine va_get (D := G) (ci := 9) (v := .ref (B_t 1)) (C := RX10) (T := TX10) (N := 15) hx hb hts inX10 hown hK hP 0 rfl rfl 1 (by decide) hf18 (fun _ h9 => h9) rfl dX10_times_81 ?_
                  refine va_getN (D := G) (ci := 6) (v := .int t_draft_n) (C := RX7) (T := TX7) (N := 2) hx hb hts inX7 hown hK hP 3 rfl rfl 1 (by decide) (hE.nest args 0 _ rfl) (fun _ h9 => h9) rfl dX10_times_84 ?_
                  obtain ⟨ht, hf⟩ := h
                  refine lv_icmp_ge (tgt := 137) hx hb dX10_times_87 (by decide) (fun c9 => ?_) (fun c9 => ?_)
                  · have h := ht c9
                    refine lv_iinc (v := (x4 + 1)) (lv' := [(4, .int (x4 + 1)), (0, .ref h_t), (2, .ref (B_t_keeps 2)), (3, .int x3), (5, .int x5)]) hx hb dX10_times_137 hl (k := 3) rfl rfl (by decide) rfl (fun ls hl => ?_)
                    refine lv_goto (tgt := 63) hx hb dX10_times_140 (by decide) ?_
                    exact rec63 (x4 + 1) t_draft_cells H locs ls h hP hD hS (lv_sub hl [1, 2, 3, 0] rfl)
                  · have h := hf c9
                    refine lv_aload_n hx hb dX10_times_90 rfl (lv_at hl 0 rfl) ?_
                    refine va_get (D := G) (ci := 9) (v := .ref (B_t 1)) (C := RX10) (T := TX10) (N := 15) hx hb hts inX10 hown hK hP 0 rfl rfl 1 (by decide) hf18 (fun _ h9 => h9) rfl dX10_times_91 ?_
                    refine lv_iload hx hb dX10_times_94 (lv_at hl 3 rfl) ?_
                    refine lv_iload hx hb dX10_times_96 (lv_at hl 4 rfl) ?_
                    refine lv_iload_n hx hb dX10_times_98 rfl (lv_at hl 2 rfl) ?_
                    refine lv_aload_n hx hb dX10_times_99 rfl (lv_at hl 0 rfl) ?_
                    refine va_get (D := G) (ci := 9) (v := .ref (B_t 0)) (C := RX10) (T := TX10) (N := 15) hx hb hts inX10 hown hK hP 0 rfl rfl 0 (by decide) hf14 (fun _ h9 => h9) rfl dX10_times_100 ?_
                    refine lv_iload hx hb dX10_times_103 (lv_at hl 3 rfl) ?_
                    refine lv_iload_n hx hb dX10_times_105 rfl (lv_at hl 2 rfl) ?_
                    obtain ⟨hne, h⟩ := h
                    refine lv_idiv hx hb dX10_times_106 hne ?_
                    refine lv_iload hx hb dX10_times_107 (lv_at hl 4 rfl) ?_
                    refine lv_iload_n hx hb dX10_times_109 rfl (lv_at hl 2 rfl) ?_
                    obtain ⟨hne, h⟩ := h
                    refine lv_idiv hx hb dX10_times_110 hne ?_
                    refine mc_iV ⟨hx, hb, hml, hown, hts⟩ hK hE hA hP hD hS (c_X7_turned l G Y tF H.size (B_t 0) B_t_current t_current_n t_current_cells (x4 / x3) (x5 / x3) h) (cwV 2 hts gX10_times_X7_turned rfl rfl rfl (by decide +kernel) ⟨Nat.le_trans (by decide) hRf, Nat.le_trans (by decide) hRl⟩) (fun u => (w_X10_times Y h_t B_t B_t_current B_t_draft B_t_keeps B_t_keeps_e B_t_twisting t_toldCount t_current_n t_current_cells t_draft_n t_draft_cells t_keeps_n t_keeps_cells t_twisting_modulus t_twisting_values)) [1, 2] [0, 3, 4, 5, 6, 7, 8, 9, 10, 11, 12, 13, 14, 15] [0, 14, 15, 1, 2, 3, 4, 5, 6, 7, 8, 9, 10, 11, 12, 13] rfl rfl rfl rfl (by decide) (fun _ => rfl) rfl 1 6 rfl rfl rfl rfl hl.1 rfl (Nat.le_of_ble_eq_true rfl) dX10_times_111 (fun r111 u H locs h hP hD hS => ?_)
                    try dsimp only at h
                    have hP : va_P G vwCl (w_X10_times Y h_t B_t B_t_current B_t_draft B_t_keeps B_t_keeps_e B_t_twisting t_toldCount t_current_n t_current_cells t_draft_n t_draft_cells t_keeps_n t_keeps_cells t_twisting_modulus t_twisting_values) H := hP
                    have hD : va_D A (w_X10_times Y h_t B_t B_t_current B_t_draft B_t_keeps B_t_keeps_e B_t_twisting t_toldCount t_current_n t_current_cells t_draft_n t_draft_cells t_keeps_n t_keeps_cells t_twisting_modulus t_twisting_values) := hD
                    refine lv_imul hx hb dX10_times_114 ?_
                    refine lv_aload_n hx hb dX10_times_115 rfl (lv_at hl 1 rfl) ?_
                    refine lv_iload hx hb dX10_times_116 (lv_at hl 3 rfl) ?_
                    refine lv_iload_n hx hb dX10_times_118 rfl (lv_at hl 2 rfl) ?_
                    obtain ⟨hne, h⟩ := h
                    refine lv_irem hx hb dX10_times_119 hne ?_
                    refine lv_iload hx hb dX10_times_120 (lv_at hl 4 rfl) ?_
                    refine lv_iload_n hx hb dX10_times_122 rfl (lv_at hl 2 rfl) ?_
                    obtain ⟨hne, h⟩ := h
                    refine lv_irem hx hb dX10_times_123 hne ?_
                    refine mc_iV ⟨hx, hb, hml, hown, hts⟩ hK hE hA hP hD hS (c_X7_turned l G Y tF H.size (B_t_keeps 2) (B_t_keeps_e 2) (t_keeps_n 2) (t_keeps_cells 2) (x4 - x4 / x3 * x3) (x5 - x5 / x3 * x3) h) (cwV 2 hts gX10_times_X7_turned rfl rfl rfl (by decide +kernel) ⟨Nat.le_trans (by decide) hRf, Nat.le_trans (by decide) hRl⟩) (fun u => (w_X10_times Y h_t B_t B_t_current B_t_draft B_t_keeps B_t_keeps_e B_t_twisting t_toldCount t_current_n t_current_cells t_draft_n t_draft_cells t_keeps_n t_keeps_cells t_twisting_modulus t_twisting_values)) [10, 11] [0, 1, 2, 3, 4, 5, 6, 7, 8, 9, 12, 13, 14, 15] [0, 1, 2, 3, 4, 5, 6, 7, 8, 9, 14, 15, 10, 11, 12, 13] rfl rfl rfl rfl (by decide) (fun _ => rfl) rfl 10 6 rfl rfl rfl rfl hl.1 rfl (Nat.le_of_ble_eq_true rfl) dX10_times_124 (fun r124 u H locs h hP hD hS => ?_)
                    try dsimp only at h
                    have hP : va_P G vwCl (w_X10_times Y h_t B_t B_t_current B_t_draft B_t_keeps B_t_keeps_e B_t_twisting t_toldCount t_current_n t_current_cells t_draft_n t_draft_cells t_keeps_n t_keeps_cells t_twisting_modulus t_twisting_values) H := hP
                    have hD : va_D A (w_X10_times Y h_t B_t B_t_current B_t_draft B_t_keeps B_t_keeps_e B_t_twisting t_toldCount t_current_n t_current_cells t_draft_n t_draft_cells t_keeps_n t_keeps_cells t_twisting_modulus t_twisting_values) := hD
                    refine lv_iadd hx hb dX10_times_127 ?_
                    refine mc_vV ⟨hx, hb, hml, hown, hts⟩ hK hE hA hP hD hS (c_X7_put l G Y tF H.size (B_t 1) B_t_draft t_draft_n t_draft_cells x4 x5 ((x3 * r111) + r124) h) (cwV 3 hts gX10_times_X7_put rfl rfl rfl (by decide +kernel) ⟨Nat.le_trans (by decide) hRf, Nat.le_trans (by decide) hRl⟩) (fun u => (w_X10_times Y h_t B_t B_t_current B_t_draft B_t_keeps B_t_keeps_e B_t_twisting t_toldCount t_current_n t_current_cells t_draft_n u t_keeps_n t_keeps_cells t_twisting_modulus t_twisting_values)) [3, 4] [0, 1, 2, 5, 6, 7, 8, 9, 10, 11, 12, 13, 14, 15] [0, 1, 2, 14, 15, 3, 4, 5, 6, 7, 8, 9, 10, 11, 12, 13] rfl rfl rfl rfl (by decide) (fun _ => rfl) rfl 3 6 rfl rfl rfl rfl hl.1 rfl (Nat.le_of_ble_eq_true rfl) dX10_times_128 (fun u H locs h hP hD hS => ?_)
                    obtain ⟨t_draft_cells_128, rfl⟩ : ∃ z, z = u := ⟨_, rfl⟩
                    try dsimp only at h
                    have hP : va_P G vwCl (w_X10_times Y h_t B_t B_t_current B_t_draft B_t_keeps B_t_keeps_e B_t_twisting t_toldCount t_current_n t_current_cells t_draft_n t_draft_cells_128 t_keeps_n t_keeps_cells t_twisting_modulus t_twisting_values) H := hP
                    have hD : va_D A (w_X10_times Y h_t B_t B_t_current B_t_draft B_t_keeps B_t_keeps_e B_t_twisting t_toldCount t_current_n t_current_cells t_draft_n t_draft_cells_128 t_keeps_n t_keeps_cells t_twisting_modulus t_twisting_values) := hD
                    refine lv_iinc (v := (x5 + 1)) (lv' := [(5, .int (x5 + 1)), (0, .ref h_t), (2, .ref (B_t_keeps 2)), (3, .int x3), (4, .int x4)]) hx hb dX10_times_131 hl (k := 4) rfl rfl (by decide) rfl (fun ls hl => ?_)
                    refine lv_goto (tgt := 78) hx hb dX10_times_134 (by decide) ?_
                    exact rec78 (x5 + 1) t_draft_cells_128 H locs ls h hP hD hS (lv_sub hl [1, 2, 3, 4, 0] rfl)
              exact L78 x4 I78 m78 hB78 _ (0 : Int32) t_draft_cells H locs ls hI78 (Nat.lt_succ_self _) hP hD hS (lv_sub hl [1, 2, 3, 4, 0] rfl)
        exact L63 (t_keeps_n 2) t_current_n t_current_cells (t_current_n * (t_keeps_n 2)) t_twisting_values I63 m63 hB63 _ (0 : Int32) t_draft_cells H locs ls hI63 (Nat.lt_succ_self _) hP hD hS (lv_sub hl [3, 2, 1, 0] rfl)
      · have h := hf c9
        refine lv_iconst (v := -1) hx hb dX10_times_30 (by decide) ?_
        exact hret (-1 : Int32) t_current_n t_current_cells t_draft_n t_draft_cells t_twisting_values H locs ls _ hP hD hS h dX10_times_31
    · clear hj9
      refine W.eq (g2 := F0 m 21 ls [.ref (B_t_keeps 3), .int t_current_n]) rfl ?_
      refine va_getN (D := G) (ci := 6) (v := .int (t_keeps_n 3)) (C := RX7) (T := TX7) (N := 2) hx hb hts inX7 hown hK hP 12 rfl rfl 1 (by decide) (hE.nest args 0 _ rfl) (fun _ h9 => h9) rfl dX10_times_21 ?_
      refine lv_imul hx hb dX10_times_24 ?_
      refine lv_bipush (v := 8) hx hb dX10_times_25 (by decide) ?_
      obtain ⟨ht, hf⟩ := h
      refine lv_icmp_le (tgt := 32) hx hb dX10_times_27 (by decide) (fun c9 => ?_) (fun c9 => ?_)
      · have h := ht c9
        refine lv_aload_n hx hb dX10_times_32 rfl (lv_at hl 0 rfl) ?_
        refine va_get (D := G) (ci := 9) (v := .ref (B_t 3)) (C := RX10) (T := TX10) (N := 15) hx hb hts inX10 hown hK hP 0 rfl rfl 3 (by decide) hf24 (fun _ h9 => h9) rfl dX10_times_33 ?_
        refine lv_iload_n hx hb dX10_times_36 rfl (lv_at hl 1 rfl) ?_
        obtain ⟨hin, h⟩ := h
        refine va_aldq hx hb hK hP 5 2 rfl rfl hin dX10_times_37 ?_
        simp only [e8]
        clear hin
        refine W.eq (g2 := F0 m 38 ls [.ref (B_t_keeps 3)]) rfl ?_
        refine lv_astore_n (lv' := [(2, .ref (B_t_keeps 3)), (0, .ref h_t), (1, .int x1)]) hx hb dX10_times_38 rfl hl (by decide) rfl (fun ls hl => ?_)
        refine lv_aload_n hx hb dX10_times_39 rfl (lv_at hl 0 rfl) ?_
        refine va_getN (D := G) (ci := 6) (v := .int (t_keeps_n 3)) (C := RX7) (T := TX7) (N := 2) hx hb hts inX7 hown hK hP 12 rfl rfl 1 (by decide) (hE.nest args 0 _ rfl) (fun _ h9 => h9) rfl dX10_times_40 ?_
        refine lv_istore_n (lv' := [(3, .int (t_keeps_n 3)), (2, .ref (B_t_keeps 3)), (0, .ref h_t), (1, .int x1)]) hx hb dX10_times_43 rfl hl (by decide) rfl (fun ls hl => ?_)
        refine lv_aload_n hx hb dX10_times_44 rfl (lv_at hl 2 rfl) ?_
        refine va_get (D := G) (ci := 9) (v := .ref (B_t 1)) (C := RX10) (T := TX10) (N := 15) hx hb hts inX10 hown hK hP 0 rfl rfl 1 (by decide) hf18 (fun _ h9 => h9) rfl dX10_times_45 ?_
        refine lv_aload_n hx hb dX10_times_48 rfl (lv_at hl 2 rfl) ?_
        refine va_get (D := G) (ci := 9) (v := .ref (B_t 0)) (C := RX10) (T := TX10) (N := 15) hx hb hts inX10 hown hK hP 0 rfl rfl 0 (by decide) hf14 (fun _ h9 => h9) rfl dX10_times_49 ?_
        refine va_getN (D := G) (ci := 6) (v := .int t_current_n) (C := RX7) (T := TX7) (N := 2) hx hb hts inX7 hown hK hP 1 rfl rfl 1 (by decide) (hE.nest args 0 _ rfl) (fun _ h9 => h9) rfl dX10_times_52 ?_
        refine lv_iload_n hx hb dX10_times_55 rfl (lv_at hl 0 rfl) ?_
        refine lv_imul hx hb dX10_times_56 ?_
        refine va_putN (D := G) (ci := 6) (v := .int (t_current_n * (t_keeps_n 3))) (ty := .int) (C := RX7) (T := TX7) (N := 2) hx hb hts inX7 tyX7 tyX7_ok nmX7 hown hK hP hD hS 3 rfl rfl 1 (by decide) (hE.nest args 0 _ rfl) (fun _ h9 => h9) rfl (by decide +kernel) rfl rfl (Nat.le_of_ble_eq_true rfl) dX10_times_57 (fun H locs hP hD hS => ?_)
        have hP : va_P G vwCl (w_X10_times Y h_t B_t B_t_current B_t_draft B_t_keeps B_t_keeps_e B_t_twisting t_toldCount t_current_n t_current_cells (t_current_n * (t_keeps_n 3)) t_draft_cells t_keeps_n t_keeps_cells t_twisting_modulus t_twisting_values) H := hP
        have hD : va_D A (w_X10_times Y h_t B_t B_t_current B_t_draft B_t_keeps B_t_keeps_e B_t_twisting t_toldCount t_current_n t_current_cells (t_current_n * (t_keeps_n 3)) t_draft_cells t_keeps_n t_keeps_cells t_twisting_modulus t_twisting_values) := hD
        refine lv_iconst (v := 0) hx hb dX10_times_60 (by decide) ?_
        refine lv_istore (lv' := [(4, .int (0 : Int32)), (3, .int (t_keeps_n 3)), (2, .ref (B_t_keeps 3)), (0, .ref h_t), (1, .int x1)]) hx hb dX10_times_61 hl (by decide) rfl (fun ls hl => ?_)
        obtain ⟨I63, m63, hI63, hB63⟩ := h
        have L63 : ∀ (x3 : Int32) (t_current_n : Int32) (t_current_cells : Nat → Int32) (t_draft_n : Int32) (t_twisting_values : Nat → Int32) (I63 : Int32 → (Nat → Int32) → Prop) (m63 : Int32 → (Nat → Int32) → Nat), (∀ (x4 : Int32) (t_draft_cells : Nat → Int32), I63 x4 t_draft_cells → pX10_times_63 t_keeps_n t_keeps_cells K 3 x3 t_current_n t_current_cells t_draft_n t_twisting_values x4 t_draft_cells (fun x4' t_draft_cells' => I63 x4' t_draft_cells' ∧ m63 x4' t_draft_cells' < m63 x4 t_draft_cells)) → ∀ (n : Nat) (x4 : Int32) (t_draft_cells : Nat → Int32) (H : Heap) (locs : List Loc) (ls : Array Slot), I63 x4 t_draft_cells → m63 x4 t_draft_cells < n → va_P G vwCl (w_X10_times Y h_t B_t B_t_current B_t_draft B_t_keeps B_t_keeps_e B_t_twisting t_toldCount t_current_n t_current_cells t_draft_n t_draft_cells t_keeps_n t_keeps_cells t_twisting_modulus t_twisting_values) H → va_D A (w_X10_times Y h_t B_t B_t_current B_t_draft B_t_keeps B_t_keeps_e B_t_twisting t_toldCount t_current_n t_current_cells t_draft_n t_draft_cells t_keeps_n t_keeps_cells t_twisting_modulus t_twisting_values) → va_S A s.heap H locs → lv_has ls 6 [(0, .ref h_t), (2, .ref (B_t_keeps 3)), (3, .int x3), (4, .int x4)] → W p l e R s m args below meth c H locs 0 0 Q (F0 m 63 ls []) := by
          intro x3 t_current_n t_current_cells t_draft_n t_twisting_values I63 m63 hB63 n
          induction n with
          | zero => intro x4 t_draft_cells H locs ls _ hm; exact absurd hm (Nat.not_lt_zero _)
          | succ n ih =>
            intro x4 t_draft_cells H locs ls hI hm hP hD hS hl
            obtain ⟨R63, h, rec63⟩ : ∃ R63 : Int32 → (Nat → Int32) → Prop, pX10_times_63 t_keeps_n t_keeps_cells K 3 x3 t_current_n t_current_cells t_draft_n t_twisting_values x4 t_draft_cells R63 ∧ ∀ (x4 : Int32) (t_draft_cells : Nat → Int32) (H : Heap) (locs : List Loc) (ls : Array Slot), R63 x4 t_draft_cells → va_P G vwCl (w_X10_times Y h_t B_t B_t_current B_t_draft B_t_keeps B_t_keeps_e B_t_twisting t_toldCount t_current_n t_current_cells t_draft_n t_draft_cells t_keeps_n t_keeps_cells t_twisting_modulus t_twisting_values) H → va_D A (w_X10_times Y h_t B_t B_t_current B_t_draft B_t_keeps B_t_keeps_e B_t_twisting t_toldCount t_current_n t_current_cells t_draft_n t_draft_cells t_keeps_n t_keeps_cells t_twisting_modulus t_twisting_values) → va_S A s.heap H locs → lv_has ls 6 [(0, .ref h_t), (2, .ref (B_t_keeps 3)), (3, .int x3), (4, .int x4)] → W p l e R s m args below meth c H locs 0 0 Q (F0 m 63 ls []) := ⟨_, hB63 x4 t_draft_cells hI, fun x4 t_draft_cells H locs ls hh hP hD hS hl => ih x4 t_draft_cells H locs ls hh.1 (Nat.lt_of_lt_of_le hh.2 (Nat.le_of_lt_succ hm)) hP hD hS hl⟩
            refine lv_iload hx hb dX10_times_63 (lv_at hl 3 rfl) ?_
            refine lv_aload_n hx hb dX10_times_65 rfl (lv_at hl 0 rfl) ?_
            refine va_get (D := G) (ci := 9) (v := .ref (B_t 1)) (C := RX10) (T := TX10) (N := 15) hx hb hts inX10 hown hK hP 0 rfl rfl 1 (by decide) hf18 (fun _ h9 => h9) rfl dX10_times_66 ?_
            refine va_getN (D := G) (ci := 6) (v := .int t_draft_n) (C := RX7) (T := TX7) (N := 2) hx hb hts inX7 hown hK hP 3 rfl rfl 1 (by decide) (hE.nest args 0 _ rfl) (fun _ h9 => h9) rfl dX10_times_69 ?_
            obtain ⟨ht, hf⟩ := h
            refine lv_icmp_ge (tgt := 143) hx hb dX10_times_72 (by decide) (fun c9 => ?_) (fun c9 => ?_)
            · have h := ht c9
              refine lv_aload_n hx hb dX10_times_143 rfl (lv_at hl 0 rfl) ?_
              refine mc_iV ⟨hx, hb, hml, hown, hts⟩ hK hE hA hP hD hS (c_X10_adoptDraft l G Y tF H.size h_t B_t B_t_current B_t_draft B_t_twisting t_toldCount t_current_n t_current_cells t_draft_n t_draft_cells t_twisting_modulus t_twisting_values h) (cwV 0 hts gX10_times_X10_adoptDraft rfl rfl rfl (by decide +kernel) ⟨Nat.le_trans (by decide) hRf, Nat.le_trans (by decide) hRl⟩) (fun u => (w_X10_times Y h_t B_t B_t_current B_t_draft B_t_keeps B_t_keeps_e B_t_twisting t_toldCount u.1 u.2.1 t_draft_n t_draft_cells t_keeps_n t_keeps_cells t_twisting_modulus u.2.2)) [0, 1, 2, 3, 4, 14, 15] [5, 6, 7, 8, 9, 10, 11, 12, 13] [9, 10, 11, 12, 13, 0, 1, 2, 3, 4, 5, 6, 7, 8, 14, 15] rfl rfl rfl rfl (by decide) (fun _ => rfl) rfl 0 9 rfl rfl rfl rfl hl.1 rfl (Nat.le_of_ble_eq_true rfl) dX10_times_144 (fun r144 u H locs h hP hD hS => ?_)
              obtain ⟨t_current_n_144, t_current_cells_144, t_twisting_values_144⟩ := u
              try dsimp only at h
              have hP : va_P G vwCl (w_X10_times Y h_t B_t B_t_current B_t_draft B_t_keeps B_t_keeps_e B_t_twisting t_toldCount t_current_n_144 t_current_cells_144 t_draft_n t_draft_cells t_keeps_n t_keeps_cells t_twisting_modulus t_twisting_values_144) H := hP
              have hD : va_D A (w_X10_times Y h_t B_t B_t_current B_t_draft B_t_keeps B_t_keeps_e B_t_twisting t_toldCount t_current_n_144 t_current_cells_144 t_draft_n t_draft_cells t_keeps_n t_keeps_cells t_twisting_modulus t_twisting_values_144) := hD
              exact hret r144 t_current_n_144 t_current_cells_144 t_draft_n t_draft_cells t_twisting_values_144 H locs ls _ hP hD hS h dX10_times_147
            · have h := hf c9
              refine lv_iconst (v := 0) hx hb dX10_times_75 (by decide) ?_
              refine lv_istore (lv' := [(5, .int (0 : Int32)), (0, .ref h_t), (2, .ref (B_t_keeps 3)), (3, .int x3), (4, .int x4)]) hx hb dX10_times_76 hl (by decide) rfl (fun ls hl => ?_)
              obtain ⟨I78, m78, hI78, hB78⟩ := h
              have L78 : ∀ (x4 : Int32) (I78 : Int32 → (Nat → Int32) → Prop) (m78 : Int32 → (Nat → Int32) → Nat), (∀ (x5 : Int32) (t_draft_cells : Nat → Int32), I78 x5 t_draft_cells → pX10_times_78 t_keeps_n t_keeps_cells R63 K 3 x3 t_current_n t_current_cells t_draft_n t_twisting_values x4 x5 t_draft_cells (fun x5' t_draft_cells' => I78 x5' t_draft_cells' ∧ m78 x5' t_draft_cells' < m78 x5 t_draft_cells)) → ∀ (n : Nat) (x5 : Int32) (t_draft_cells : Nat → Int32) (H : Heap) (locs : List Loc) (ls : Array Slot), I78 x5 t_draft_cells → m78 x5 t_draft_cells < n → va_P G vwCl (w_X10_times Y h_t B_t B_t_current B_t_draft B_t_keeps B_t_keeps_e B_t_twisting t_toldCount t_current_n t_current_cells t_draft_n t_draft_cells t_keeps_n t_keeps_cells t_twisting_modulus t_twisting_values) H → va_D A (w_X10_times Y h_t B_t B_t_current B_t_draft B_t_keeps B_t_keeps_e B_t_twisting t_toldCount t_current_n t_current_cells t_draft_n t_draft_cells t_keeps_n t_keeps_cells t_twisting_modulus t_twisting_values) → va_S A s.heap H locs → lv_has ls 6 [(0, .ref h_t), (2, .ref (B_t_keeps 3)), (3, .int x3), (4, .int x4), (5, .int x5)] → W p l e R s m args below meth c H locs 0 0 Q (F0 m 78 ls []) := by
                intro x4 I78 m78 hB78 n
                induction n with
                | zero => intro x5 t_draft_cells H locs ls _ hm; exact absurd hm (Nat.not_lt_zero _)
                | succ n ih =>
                  intro x5 t_draft_cells H locs ls hI hm hP hD hS hl
                  obtain ⟨R78, h, rec78⟩ : ∃ R78 : Int32 → (Nat → Int32) → Prop, pX10_times_78 t_keeps_n t_keeps_cells R63 K 3 x3 t_current_n t_current_cells t_draft_n t_twisting_values x4 x5 t_draft_cells R78 ∧ ∀ (x5 : Int32) (t_draft_cells : Nat → Int32) (H : Heap) (locs : List Loc) (ls : Array Slot), R78 x5 t_draft_cells → va_P G vwCl (w_X10_times Y h_t B_t B_t_current B_t_draft B_t_keeps B_t_keeps_e B_t_twisting t_toldCount t_current_n t_current_cells t_draft_n t_draft_cells t_keeps_n t_keeps_cells t_twisting_modulus t_twisting_values) H → va_D A (w_X10_times Y h_t B_t B_t_current B_t_draft B_t_keeps B_t_keeps_e B_t_twisting t_toldCount t_current_n t_current_cells t_draft_n t_draft_cells t_keeps_n t_keeps_cells t_twisting_modulus t_twisting_values) → va_S A s.heap H locs → lv_has ls 6 [(0, .ref h_t), (2, .ref (B_t_keeps 3)), (3, .int x3), (4, .int x4), (5, .int x5)] → W p l e R s m args below meth c H locs 0 0 Q (F0 m 78 ls []) := ⟨_, hB78 x5 t_draft_cells hI, fun x5 t_draft_cells H locs ls hh hP hD hS hl => ih x5 t_draft_cells H locs ls hh.1 (Nat.lt_of_lt_of_le hh.2 (Nat.le_of_lt_succ hm)) hP hD hS hl⟩
                  refine lv_iload hx hb dX10_times_78 (lv_at hl 4 rfl) ?_
                  refine lv_aload_n hx hb dX10_times_80 rfl (lv_at hl 0 rfl) ?_
                  refine va_get (D := G) (ci := 9) (v := .ref (B_t 1)) (C := RX10) (T := TX10) (N := 15) hx hb hts inX10 hown hK hP 0 rfl rfl 1 (by decide) hf18 (fun _ h9 => h9) rfl dX10_times_81 ?_
                  refine va_getN (D := G) (ci := 6) (v := .int t_draft_n) (C := RX7) (T := TX7) (N := 2) hx hb hts inX7 hown hK hP 3 rfl rfl 1 (by decide) (hE.nest args 0 _ rfl) (fun _ h9 => h9) rfl dX10_times_84 ?_
                  obtain ⟨ht, hf⟩ := h
                  refine lv_icmp_ge (tgt := 137) hx hb dX10_times_87 (by decide) (fun c9 => ?_) (fun c9 => ?_)
                  · have h := ht c9
                    refine lv_iinc (v := (x4 + 1)) (lv' := [(4, .int (x4 + 1)), (0, .ref h_t), (2, .ref (B_t_keeps 3)), (3, .int x3), (5, .int x5)]) hx hb dX10_times_137 hl (k := 3) rfl rfl (by decide) rfl (fun ls hl => ?_)
                    refine lv_goto (tgt := 63) hx hb dX10_times_140 (by decide) ?_
                    exact rec63 (x4 + 1) t_draft_cells H locs ls h hP hD hS (lv_sub hl [1, 2, 3, 0] rfl)
                  · have h := hf c9
                    refine lv_aload_n hx hb dX10_times_90 rfl (lv_at hl 0 rfl) ?_
                    refine va_get (D := G) (ci := 9) (v := .ref (B_t 1)) (C := RX10) (T := TX10) (N := 15) hx hb hts inX10 hown hK hP 0 rfl rfl 1 (by decide) hf18 (fun _ h9 => h9) rfl dX10_times_91 ?_
                    refine lv_iload hx hb dX10_times_94 (lv_at hl 3 rfl) ?_
                    refine lv_iload hx hb dX10_times_96 (lv_at hl 4 rfl) ?_
                    refine lv_iload_n hx hb dX10_times_98 rfl (lv_at hl 2 rfl) ?_
                    refine lv_aload_n hx hb dX10_times_99 rfl (lv_at hl 0 rfl) ?_
                    refine va_get (D := G) (ci := 9) (v := .ref (B_t 0)) (C := RX10) (T := TX10) (N := 15) hx hb hts inX10 hown hK hP 0 rfl rfl 0 (by decide) hf14 (fun _ h9 => h9) rfl dX10_times_100 ?_
                    refine lv_iload hx hb dX10_times_103 (lv_at hl 3 rfl) ?_
                    refine lv_iload_n hx hb dX10_times_105 rfl (lv_at hl 2 rfl) ?_
                    obtain ⟨hne, h⟩ := h
                    refine lv_idiv hx hb dX10_times_106 hne ?_
                    refine lv_iload hx hb dX10_times_107 (lv_at hl 4 rfl) ?_
                    refine lv_iload_n hx hb dX10_times_109 rfl (lv_at hl 2 rfl) ?_
                    obtain ⟨hne, h⟩ := h
                    refine lv_idiv hx hb dX10_times_110 hne ?_
                    refine mc_iV ⟨hx, hb, hml, hown, hts⟩ hK hE hA hP hD hS (c_X7_turned l G Y tF H.size (B_t 0) B_t_current t_current_n t_current_cells (x4 / x3) (x5 / x3) h) (cwV 2 hts gX10_times_X7_turned rfl rfl rfl (by decide +kernel) ⟨Nat.le_trans (by decide) hRf, Nat.le_trans (by decide) hRl⟩) (fun u => (w_X10_times Y h_t B_t B_t_current B_t_draft B_t_keeps B_t_keeps_e B_t_twisting t_toldCount t_current_n t_current_cells t_draft_n t_draft_cells t_keeps_n t_keeps_cells t_twisting_modulus t_twisting_values)) [1, 2] [0, 3, 4, 5, 6, 7, 8, 9, 10, 11, 12, 13, 14, 15] [0, 14, 15, 1, 2, 3, 4, 5, 6, 7, 8, 9, 10, 11, 12, 13] rfl rfl rfl rfl (by decide) (fun _ => rfl) rfl 1 6 rfl rfl rfl rfl hl.1 rfl (Nat.le_of_ble_eq_true rfl) dX10_times_111 (fun r111 u H locs h hP hD hS => ?_)
                    try dsimp only at h
                    have hP : va_P G vwCl (w_X10_times Y h_t B_t B_t_current B_t_draft B_t_keeps B_t_keeps_e B_t_twisting t_toldCount t_current_n t_current_cells t_draft_n t_draft_cells t_keeps_n t_keeps_cells t_twisting_modulus t_twisting_values) H := hP
                    have hD : va_D A (w_X10_times Y h_t B_t B_t_current B_t_draft B_t_keeps B_t_keeps_e B_t_twisting t_toldCount t_current_n t_current_cells t_draft_n t_draft_cells t_keeps_n t_keeps_cells t_twisting_modulus t_twisting_values) := hD
                    refine lv_imul hx hb dX10_times_114 ?_
                    refine lv_aload_n hx hb dX10_times_115 rfl (lv_at hl 1 rfl) ?_
                    refine lv_iload hx hb dX10_times_116 (lv_at hl 3 rfl) ?_
                    refine lv_iload_n hx hb dX10_times_118 rfl (lv_at hl 2 rfl) ?_
                    obtain ⟨hne, h⟩ := h
                    refine lv_irem hx hb dX10_times_119 hne ?_
                    refine lv_iload hx hb dX10_times_120 (lv_at hl 4 rfl) ?_
                    refine lv_iload_n hx hb dX10_times_122 rfl (lv_at hl 2 rfl) ?_
                    obtain ⟨hne, h⟩ := h
                    refine lv_irem hx hb dX10_times_123 hne ?_
                    refine mc_iV ⟨hx, hb, hml, hown, hts⟩ hK hE hA hP hD hS (c_X7_turned l G Y tF H.size (B_t_keeps 3) (B_t_keeps_e 3) (t_keeps_n 3) (t_keeps_cells 3) (x4 - x4 / x3 * x3) (x5 - x5 / x3 * x3) h) (cwV 2 hts gX10_times_X7_turned rfl rfl rfl (by decide +kernel) ⟨Nat.le_trans (by decide) hRf, Nat.le_trans (by decide) hRl⟩) (fun u => (w_X10_times Y h_t B_t B_t_current B_t_draft B_t_keeps B_t_keeps_e B_t_twisting t_toldCount t_current_n t_current_cells t_draft_n t_draft_cells t_keeps_n t_keeps_cells t_twisting_modulus t_twisting_values)) [12, 13] [0, 1, 2, 3, 4, 5, 6, 7, 8, 9, 10, 11, 14, 15] [0, 1, 2, 3, 4, 5, 6, 7, 8, 9, 10, 11, 14, 15, 12, 13] rfl rfl rfl rfl (by decide) (fun _ => rfl) rfl 12 6 rfl rfl rfl rfl hl.1 rfl (Nat.le_of_ble_eq_true rfl) dX10_times_124 (fun r124 u H locs h hP hD hS => ?_)
                    try dsimp only at h
                    have hP : va_P G vwCl (w_X10_times Y h_t B_t B_t_current B_t_draft B_t_keeps B_t_keeps_e B_t_twisting t_toldCount t_current_n t_current_cells t_draft_n t_draft_cells t_keeps_n t_keeps_cells t_twisting_modulus t_twisting_values) H := hP
                    have hD : va_D A (w_X10_times Y h_t B_t B_t_current B_t_draft B_t_keeps B_t_keeps_e B_t_twisting t_toldCount t_current_n t_current_cells t_draft_n t_draft_cells t_keeps_n t_keeps_cells t_twisting_modulus t_twisting_values) := hD
                    refine lv_iadd hx hb dX10_times_127 ?_
                    refine mc_vV ⟨hx, hb, hml, hown, hts⟩ hK hE hA hP hD hS (c_X7_put l G Y tF H.size (B_t 1) B_t_draft t_draft_n t_draft_cells x4 x5 ((x3 * r111) + r124) h) (cwV 3 hts gX10_times_X7_put rfl rfl rfl (by decide +kernel) ⟨Nat.le_trans (by decide) hRf, Nat.le_trans (by decide) hRl⟩) (fun u => (w_X10_times Y h_t B_t B_t_current B_t_draft B_t_keeps B_t_keeps_e B_t_twisting t_toldCount t_current_n t_current_cells t_draft_n u t_keeps_n t_keeps_cells t_twisting_modulus t_twisting_values)) [3, 4] [0, 1, 2, 5, 6, 7, 8, 9, 10, 11, 12, 13, 14, 15] [0, 1, 2, 14, 15, 3, 4, 5, 6, 7, 8, 9, 10, 11, 12, 13] rfl rfl rfl rfl (by decide) (fun _ => rfl) rfl 3 6 rfl rfl rfl rfl hl.1 rfl (Nat.le_of_ble_eq_true rfl) dX10_times_128 (fun u H locs h hP hD hS => ?_)
                    obtain ⟨t_draft_cells_128, rfl⟩ : ∃ z, z = u := ⟨_, rfl⟩
                    try dsimp only at h
                    have hP : va_P G vwCl (w_X10_times Y h_t B_t B_t_current B_t_draft B_t_keeps B_t_keeps_e B_t_twisting t_toldCount t_current_n t_current_cells t_draft_n t_draft_cells_128 t_keeps_n t_keeps_cells t_twisting_modulus t_twisting_values) H := hP
                    have hD : va_D A (w_X10_times Y h_t B_t B_t_current B_t_draft B_t_keeps B_t_keeps_e B_t_twisting t_toldCount t_current_n t_current_cells t_draft_n t_draft_cells_128 t_keeps_n t_keeps_cells t_twisting_modulus t_twisting_values) := hD
                    refine lv_iinc (v := (x5 + 1)) (lv' := [(5, .int (x5 + 1)), (0, .ref h_t), (2, .ref (B_t_keeps 3)), (3, .int x3), (4, .int x4)]) hx hb dX10_times_131 hl (k := 4) rfl rfl (by decide) rfl (fun ls hl => ?_)
                    refine lv_goto (tgt := 78) hx hb dX10_times_134 (by decide) ?_
                    exact rec78 (x5 + 1) t_draft_cells_128 H locs ls h hP hD hS (lv_sub hl [1, 2, 3, 4, 0] rfl)
              exact L78 x4 I78 m78 hB78 _ (0 : Int32) t_draft_cells H locs ls hI78 (Nat.lt_succ_self _) hP hD hS (lv_sub hl [1, 2, 3, 4, 0] rfl)
        exact L63 (t_keeps_n 3) t_current_n t_current_cells (t_current_n * (t_keeps_n 3)) t_twisting_values I63 m63 hB63 _ (0 : Int32) t_draft_cells H locs ls hI63 (Nat.lt_succ_self _) hP hD hS (lv_sub hl [3, 2, 1, 0] rfl)
      · have h := hf c9
        refine lv_iconst (v := -1) hx hb dX10_times_30 (by decide) ?_
        exact hret (-1 : Int32) t_current_n t_current_cells t_draft_n t_draft_cells t_twisting_values H locs ls _ hP hD hS h dX10_times_31

set_option maxHeartbeats 4000000 in
set_option maxRecDepth 100000 in
theorem c_X10_times (l : Launch) (G : va_G) (Y : Nat → ClassId) (tF sz : Nat) (h_t : Nat) (B_t : Nat → Nat) (B_t_current : Nat → Nat) (B_t_draft : Nat → Nat) (B_t_keeps : Nat → Nat) (B_t_keeps_e : Nat → Nat → Nat) (B_t_twisting : Nat → Nat) (t_toldCount : Int32) (t_current_n : Int32) (t_current_cells : Nat → Int32) (t_draft_n : Int32) (t_draft_cells : Nat → Int32) (t_keeps_n : Nat → Int32) (t_keeps_cells : Nat → Nat → Int32) (t_twisting_modulus : Int32) (t_twisting_values : Nat → Int32) (x1 : Int32) {K : Int32 → Int32 → (Nat → Int32) → Int32 → (Nat → Int32) → (Nat → Int32) → Prop} (h : pX10_times t_current_n t_current_cells t_draft_n t_draft_cells t_keeps_n t_keeps_cells t_twisting_values x1 K) : Met l yX10_times wsX10_times ({ frames := 3, cells := 0, slots := 0, locals := 105 }) (PcM G Y tF sz (w_X10_times Y h_t B_t B_t_current B_t_draft B_t_keeps B_t_keeps_e B_t_twisting t_toldCount t_current_n t_current_cells t_draft_n t_draft_cells t_keeps_n t_keeps_cells t_twisting_modulus t_twisting_values) [.ref h_t, .int x1]) (va_Qi (fun (r : Int32) (u : Int32 × (Nat → Int32) × Int32 × (Nat → Int32) × (Nat → Int32)) => K r u.1 u.2.1 u.2.2.1 u.2.2.2.1 u.2.2.2.2) (fun u t => BM G Y (va_A (w_X10_times Y h_t B_t B_t_current B_t_draft B_t_keeps B_t_keeps_e B_t_twisting t_toldCount t_current_n t_current_cells t_draft_n t_draft_cells t_keeps_n t_keeps_cells t_twisting_modulus t_twisting_values) sz) (w_X10_times Y h_t B_t B_t_current B_t_draft B_t_keeps B_t_keeps_e B_t_twisting t_toldCount u.1 u.2.1 u.2.2.1 u.2.2.2.1 t_keeps_n t_keeps_cells t_twisting_modulus u.2.2.2.2) t) (va_A (w_X10_times Y h_t B_t B_t_current B_t_draft B_t_keeps B_t_keeps_e B_t_twisting t_toldCount t_current_n t_current_cells t_draft_n t_draft_cells t_keeps_n t_keeps_cells t_twisting_modulus t_twisting_values) sz)) 0 0 (va_A (w_X10_times Y h_t B_t B_t_current B_t_draft B_t_keeps B_t_keeps_e B_t_twisting t_toldCount t_current_n t_current_cells t_draft_n t_draft_cells t_keeps_n t_keeps_cells t_twisting_modulus t_twisting_values) sz) := by
  refine Met.ofW (cc := cX10_times) (maxL := 6) (ret := (some .int)) (by decide +kernel) rfl ?_
  intro p e s m args below meth c s₁ B hml hv
  obtain ⟨rfl, hsz, hP, hK, hD0, hE⟩ := hv
  have hts := atoms_spec (ws := wsX10_times) B.pre
  have hown : s.vm.findClass RX10 = some m.cls := findClass_of_methodNamed B.named
  have hlocks := B.notSynchronized
  subst hsz
  have hD := hD0.self (sz := s.heap.size)
  exact wk_X10_times h_t B_t B_t_current B_t_draft B_t_keeps B_t_keeps_e B_t_twisting t_toldCount t_current_n t_current_cells t_draft_n t_draft_cells t_keeps_n t_keeps_cells t_twisting_modulus t_twisting_values x1 B.exec B.bytes hml hown hts hK hE (fun q h => Or.inr h) (Nat.le_refl _) (Nat.le_refl _) (fun r t_current_n t_current_cells t_draft_n t_draft_cells t_twisting_values H locs ls pc hP hD hS hk hd => W.iret (v := r) B.exec B.bytes B.returns (fun t ht hW => ⟨⟨r, (t_current_n, t_current_cells, t_draft_n, t_draft_cells, t_twisting_values), rfl, hk, by rw [ht]; exact hP, va_K.moved hW.alike hK, hD⟩, hS.F ht⟩) hS.2.2 hd) hP hD h

abbrev w_X10_joinTurnsOf (Y : Nat → ClassId) (h_t : Nat) (B_t : Nat → Nat) (B_t_classes : Nat → Nat) (B_t_current : Nat → Nat) (t_toldCount : Int32) (t_classes_n : Int32) (t_classes_leader : Nat → Int32) (t_current_n : Int32) (t_current_cells : Nat → Int32) : va_W := [(h_t, .inr (9, [.ref (B_t 0), .ref (B_t 1), .ref (B_t 2), .ref (B_t 3), .ref (B_t 4), .ref (B_t 5), .ref (B_t 6), .ref (B_t 7), .ref (B_t 8), .ref (B_t 9), .ref (B_t 10), .ref (B_t 11), .ref (B_t 12), .ref (B_t 13), .int t_toldCount])), ((B_t 6), .inr (1, [.ref (B_t_classes 0), .ref (B_t_classes 1), .int t_classes_n])), ((B_t_classes 0), .inl (Y 0, 8, .inl t_classes_leader)), ((B_t 0), .inr (6, [.ref (B_t_current 0), .int t_current_n])), ((B_t_current 0), .inl (Y 0, 64, .inl t_current_cells))]

set_option maxHeartbeats 4000000 in
set_option maxRecDepth 100000 in
theorem wk_X10_joinTurnsOf {p : Program} {l : Launch} {e : Env} {R : Room} {s : State} {m : MethodId} {args : Array Value} {below : List Frame} {meth : Method} {c : Code} {Q : State → Prop} {G : va_G} {Y : Nat → ClassId} {tF : Nat} {A : Nat → Prop} (h_t : Nat) (B_t : Nat → Nat) (B_t_classes : Nat → Nat) (B_t_current : Nat → Nat) (t_toldCount : Int32) (t_classes_n : Int32) (t_classes_leader : Nat → Int32) (t_current_n : Int32) (t_current_cells : Nat → Int32) (x1 : Int32) (x2 : Int32) {K : Int32 → (Nat → Int32) → Prop} (hx : p.tables.exec = Jvm.exec) (hb : c.code = cX10_joinTurnsOf) (hml : c.maxLocals = 7) (hown : s.vm.findClass RX10 = some m.cls) (hts : ∀ w ∈ wsX10_joinTurnsOf, w.before args s = true) (hK : va_K G vwCl (tyL Y) s) (hE : Ev A tF s) (hA : ∀ q, s.heap.size ≤ q → A q) (hRf : 2 ≤ R.frames) (hRl : 49 ≤ R.locals) (hret : ∀ (r : Int32) (t_classes_leader : Nat → Int32) (H : Heap) (locs : List Loc) (ls : Array Slot) (pc : Nat), va_P G vwCl (w_X10_joinTurnsOf Y h_t B_t B_t_classes B_t_current t_toldCount t_classes_n t_classes_leader t_current_n t_current_cells) H → va_D A (w_X10_joinTurnsOf Y h_t B_t B_t_classes B_t_current t_toldCount t_classes_n t_classes_leader t_current_n t_current_cells) → va_S A s.heap H locs → zb r → K r t_classes_leader → decode cX10_joinTurnsOf pc = .ok (.ireturn, 1) → W p l e R s m args below meth c H locs 0 0 Q (F0 m pc ls [.int r])) (hP : va_P G vwCl (w_X10_joinTurnsOf Y h_t B_t B_t_classes B_t_current t_toldCount t_classes_n t_classes_leader t_current_n t_current_cells) s.heap) (hD : va_D A (w_X10_joinTurnsOf Y h_t B_t B_t_classes B_t_current t_toldCount t_classes_n t_classes_leader t_current_n t_current_cells)) (h : pX10_joinTurnsOf t_classes_n t_classes_leader t_current_n t_current_cells x1 x2 K) : W p l e R s m args below meth c s.heap [] 0 0 Q (entryFrame m ([.ref h_t, .int x1, .int x2] : List Value).toArray 7) := by
  have inX10 : ∀ w ∈ u_ws RX10 TX10 15, w ∈ wsX10_joinTurnsOf := by decide +kernel
  have inX7 : ∀ w ∈ u_ws RX7 TX7 2, w ∈ wsX10_joinTurnsOf := by decide +kernel
  have hf14 := hts (.fieldLink RX10 14 "RackBench" "current" "LRackBench$Table;") (by decide +kernel)
  have hf45 := hts (.fieldLink RX10 45 "RackBench" "classes" "LRackBench$Classes;") (by decide +kernel)
  have hl := lv_entry ([.ref h_t, .int x1, .int x2]) (n := 7) (Nat.le_of_ble_eq_true rfl)
  rw [lg_entry_eq]
  generalize (lg_sl ([.ref h_t, .int x1, .int x2]) ++ List.replicate (7 - (lg_sl ([.ref h_t, .int x1, .int x2])).length) Slot.unset).toArray = ls at hl ⊢
  have hl : lv_has ls 7 [(0, .ref h_t), (1, .int x1), (2, .int x2)] := hl
  generalize hH0 : s.heap = H at hP ⊢
  have hS : va_S A s.heap H [] := by rw [← hH0]; exact va_S.rf
  clear hH0
  generalize ([] : List Loc) = locs at hS ⊢
  refine lv_iconst (v := 0) hx hb dX10_joinTurnsOf_0 (by decide) ?_
  refine lv_istore_n (lv' := [(3, .int (0 : Int32)), (0, .ref h_t), (1, .int x1), (2, .int x2)]) hx hb dX10_joinTurnsOf_1 rfl hl (by decide) rfl (fun ls hl => ?_)
  refine lv_iconst (v := 0) hx hb dX10_joinTurnsOf_2 (by decide) ?_
  refine lv_istore (lv' := [(4, .int (0 : Int32)), (3, .int (0 : Int32)), (0, .ref h_t), (1, .int x1), (2, .int x2)]) hx hb dX10_joinTurnsOf_3 hl (by decide) rfl (fun ls hl => ?_)
  obtain ⟨I5, m5, hI5, hB5⟩ := h
  have L5 : ∀ (x1 : Int32) (x2 : Int32) (I5 : Int32 → Int32 → (Nat → Int32) → Prop) (m5 : Int32 → Int32 → (Nat → Int32) → Nat), (∀ (x3 : Int32) (x4 : Int32) (t_classes_leader : Nat → Int32), I5 x3 x4 t_classes_leader → pX10_joinTurnsOf_5 t_classes_n t_current_n t_current_cells K x1 x2 x3 x4 t_classes_leader (fun x3' x4' t_classes_leader' => I5 x3' x4' t_classes_leader' ∧ m5 x3' x4' t_classes_leader' < m5 x3 x4 t_classes_leader)) → ∀ (n : Nat) (x3 : Int32) (x4 : Int32) (t_classes_leader : Nat → Int32) (H : Heap) (locs : List Loc) (ls : Array Slot), I5 x3 x4 t_classes_leader → m5 x3 x4 t_classes_leader < n → va_P G vwCl (w_X10_joinTurnsOf Y h_t B_t B_t_classes B_t_current t_toldCount t_classes_n t_classes_leader t_current_n t_current_cells) H → va_D A (w_X10_joinTurnsOf Y h_t B_t B_t_classes B_t_current t_toldCount t_classes_n t_classes_leader t_current_n t_current_cells) → va_S A s.heap H locs → lv_has ls 7 [(0, .ref h_t), (1, .int x1), (2, .int x2), (3, .int x3), (4, .int x4)] → W p l e R s m args below meth c H locs 0 0 Q (F0 m 5 ls []) := by
    intro x1 x2 I5 m5 hB5 n
    induction n with
    | zero => intro x3 x4 t_classes_leader H locs ls _ hm; exact absurd hm (Nat.not_lt_zero _)
    | succ n ih =>
      intro x3 x4 t_classes_leader H locs ls hI hm hP hD hS hl
      obtain ⟨R5, h, rec5⟩ : ∃ R5 : Int32 → Int32 → (Nat → Int32) → Prop, pX10_joinTurnsOf_5 t_classes_n t_current_n t_current_cells K x1 x2 x3 x4 t_classes_leader R5 ∧ ∀ (x3 : Int32) (x4 : Int32) (t_classes_leader : Nat → Int32) (H : Heap) (locs : List Loc) (ls : Array Slot), R5 x3 x4 t_classes_leader → va_P G vwCl (w_X10_joinTurnsOf Y h_t B_t B_t_classes B_t_current t_toldCount t_classes_n t_classes_leader t_current_n t_current_cells) H → va_D A (w_X10_joinTurnsOf Y h_t B_t B_t_classes B_t_current t_toldCount t_classes_n t_classes_leader t_current_n t_current_cells) → va_S A s.heap H locs → lv_has ls 7 [(0, .ref h_t), (1, .int x1), (2, .int x2), (3, .int x3), (4, .int x4)] → W p l e R s m args below meth c H locs 0 0 Q (F0 m 5 ls []) := ⟨_, hB5 x3 x4 t_classes_leader hI, fun x3 x4 t_classes_leader H locs ls hh hP hD hS hl => ih x3 x4 t_classes_leader H locs ls hh.1 (Nat.lt_of_lt_of_le hh.2 (Nat.le_of_lt_succ hm)) hP hD hS hl⟩
      have J89 : ∀ (x4 : Int32) (t_classes_leader : Nat → Int32) (H : Heap) (locs : List Loc) (ls : Array Slot), pX10_joinTurnsOf_89 t_classes_n t_current_n t_current_cells R5 K x1 x2 x4 t_classes_leader → va_P G vwCl (w_X10_joinTurnsOf Y h_t B_t B_t_classes B_t_current t_toldCount t_classes_n t_classes_leader t_current_n t_current_cells) H → va_D A (w_X10_joinTurnsOf Y h_t B_t B_t_classes B_t_current t_toldCount t_classes_n t_classes_leader t_current_n t_current_cells) → va_S A s.heap H locs → lv_has ls 7 [(0, .ref h_t), (1, .int x1), (2, .int x2), (4, .int x4)] → W p l e R s m args below meth c H locs 0 0 Q (F0 m 89 ls []) := by
        intro x4 t_classes_leader H locs ls h hP hD hS hl
        refine lv_iconst (v := 1) hx hb dX10_joinTurnsOf_89 (by decide) ?_
        refine lv_goto (tgt := 94) hx hb dX10_joinTurnsOf_90 (by decide) ?_
        refine lv_istore_n (lv' := [(3, .int (1 : Int32)), (0, .ref h_t), (1, .int x1), (2, .int x2), (4, .int x4)]) hx hb dX10_joinTurnsOf_94 rfl hl (by decide) rfl (fun ls hl => ?_)
        refine lv_iinc (v := (x4 + 1)) (lv' := [(4, .int (x4 + 1)), (3, .int (1 : Int32)), (0, .ref h_t), (1, .int x1), (2, .int x2)]) hx hb dX10_joinTurnsOf_95 hl (k := 4) rfl rfl (by decide) rfl (fun ls hl => ?_)
        refine lv_goto (tgt := 5) hx hb dX10_joinTurnsOf_98 (by decide) ?_
        exact rec5 (1 : Int32) (x4 + 1) t_classes_leader H locs ls h hP hD hS (lv_sub hl [2, 3, 4, 1, 0] rfl)
      refine lv_iload hx hb dX10_joinTurnsOf_5 (lv_at hl 4 rfl) ?_
      refine lv_aload_n hx hb dX10_joinTurnsOf_7 rfl (lv_at hl 0 rfl) ?_
      refine va_get (D := G) (ci := 9) (v := .ref (B_t 0)) (C := RX10) (T := TX10) (N := 15) hx hb hts inX10 hown hK hP 0 rfl rfl 0 (by decide) hf14 (fun _ h9 => h9) rfl dX10_joinTurnsOf_8 ?_
      refine va_getN (D := G) (ci := 6) (v := .int t_current_n) (C := RX7) (T := TX7) (N := 2) hx hb hts inX7 hown hK hP 3 rfl rfl 1 (by decide) (hE.nest args 0 _ rfl) (fun _ h9 => h9) rfl dX10_joinTurnsOf_11 ?_
      obtain ⟨ht, hf⟩ := h
      refine lv_icmp_ge (tgt := 101) hx hb dX10_joinTurnsOf_14 (by decide) (fun c9 => ?_) (fun c9 => ?_)
      · have h := ht c9
        refine lv_iload_n hx hb dX10_joinTurnsOf_101 rfl (lv_at hl 3 rfl) ?_
        obtain ⟨hz, h⟩ := h
        exact hret x3 t_classes_leader H locs ls _ hP hD hS hz h dX10_joinTurnsOf_102
      · have h := hf c9
        refine lv_aload_n hx hb dX10_joinTurnsOf_17 rfl (lv_at hl 0 rfl) ?_
        refine va_get (D := G) (ci := 9) (v := .ref (B_t 6)) (C := RX10) (T := TX10) (N := 15) hx hb hts inX10 hown hK hP 0 rfl rfl 6 (by decide) hf45 (fun _ h9 => h9) rfl dX10_joinTurnsOf_18 ?_
        refine lv_aload_n hx hb dX10_joinTurnsOf_21 rfl (lv_at hl 0 rfl) ?_
        refine va_get (D := G) (ci := 9) (v := .ref (B_t 0)) (C := RX10) (T := TX10) (N := 15) hx hb hts inX10 hown hK hP 0 rfl rfl 0 (by decide) hf14 (fun _ h9 => h9) rfl dX10_joinTurnsOf_22 ?_
        refine lv_iload_n hx hb dX10_joinTurnsOf_25 rfl (lv_at hl 1 rfl) ?_
        refine lv_iload hx hb dX10_joinTurnsOf_26 (lv_at hl 4 rfl) ?_
        refine mc_iV ⟨hx, hb, hml, hown, hts⟩ hK hE hA hP hD hS (c_X7_turned l G Y tF H.size (B_t 0) B_t_current t_current_n t_current_cells x1 x4 h) (cwV 2 hts gX10_joinTurnsOf_X7_turned rfl rfl rfl (by decide +kernel) ⟨Nat.le_trans (by decide) hRf, Nat.le_trans (by decide) hRl⟩) (fun u => (w_X10_joinTurnsOf Y h_t B_t B_t_classes B_t_current t_toldCount t_classes_n t_classes_leader t_current_n t_current_cells)) [3, 4] [0, 1, 2] [0, 1, 2, 3, 4] rfl rfl rfl rfl (by decide) (fun _ => rfl) rfl 3 6 rfl rfl rfl rfl hl.1 rfl (Nat.le_of_ble_eq_true rfl) dX10_joinTurnsOf_28 (fun r28 u H locs h hP hD hS => ?_)
        try dsimp only at h
        have hP : va_P G vwCl (w_X10_joinTurnsOf Y h_t B_t B_t_classes B_t_current t_toldCount t_classes_n t_classes_leader t_current_n t_current_cells) H := hP
        have hD : va_D A (w_X10_joinTurnsOf Y h_t B_t B_t_classes B_t_current t_toldCount t_classes_n t_classes_leader t_current_n t_current_cells) := hD
        refine lv_aload_n hx hb dX10_joinTurnsOf_31 rfl (lv_at hl 0 rfl) ?_
        refine va_get (D := G) (ci := 9) (v := .ref (B_t 0)) (C := RX10) (T := TX10) (N := 15) hx hb hts inX10 hown hK hP 0 rfl rfl 0 (by decide) hf14 (fun _ h9 => h9) rfl dX10_joinTurnsOf_32 ?_
        refine lv_iload_n hx hb dX10_joinTurnsOf_35 rfl (lv_at hl 2 rfl) ?_
        refine lv_iload hx hb dX10_joinTurnsOf_36 (lv_at hl 4 rfl) ?_
        refine mc_iV ⟨hx, hb, hml, hown, hts⟩ hK hE hA hP hD hS (c_X7_turned l G Y tF H.size (B_t 0) B_t_current t_current_n t_current_cells x2 x4 h) (cwV 2 hts gX10_joinTurnsOf_X7_turned rfl rfl rfl (by decide +kernel) ⟨Nat.le_trans (by decide) hRf, Nat.le_trans (by decide) hRl⟩) (fun u => (w_X10_joinTurnsOf Y h_t B_t B_t_classes B_t_current t_toldCount t_classes_n t_classes_leader t_current_n t_current_cells)) [3, 4] [0, 1, 2] [0, 1, 2, 3, 4] rfl rfl rfl rfl (by decide) (fun _ => rfl) rfl 3 6 rfl rfl rfl rfl hl.1 rfl (Nat.le_of_ble_eq_true rfl) dX10_joinTurnsOf_38 (fun r38 u H locs h hP hD hS => ?_)
        try dsimp only at h
        have hP : va_P G vwCl (w_X10_joinTurnsOf Y h_t B_t B_t_classes B_t_current t_toldCount t_classes_n t_classes_leader t_current_n t_current_cells) H := hP
        have hD : va_D A (w_X10_joinTurnsOf Y h_t B_t B_t_classes B_t_current t_toldCount t_classes_n t_classes_leader t_current_n t_current_cells) := hD
        refine mc_iV ⟨hx, hb, hml, hown, hts⟩ hK hE hA hP hD hS (c_X1_join l G Y tF H.size (B_t 6) B_t_classes t_classes_n t_classes_leader r28 r38 h) (cwV 2 hts gX10_joinTurnsOf_X1_join rfl rfl rfl (by decide +kernel) ⟨Nat.le_trans (by decide) hRf, Nat.le_trans (by decide) hRl⟩) (fun u => (w_X10_joinTurnsOf Y h_t B_t B_t_classes B_t_current t_toldCount t_classes_n u t_current_n t_current_cells)) [1, 2] [0, 3, 4] [0, 3, 4, 1, 2] rfl rfl rfl rfl (by decide) (fun _ => rfl) rfl 1 1 rfl rfl rfl rfl hl.1 rfl (Nat.le_of_ble_eq_true rfl) dX10_joinTurnsOf_41 (fun r41 u H locs h hP hD hS => ?_)
        obtain ⟨t_classes_leader_41, rfl⟩ : ∃ z, z = u := ⟨_, rfl⟩
        try dsimp only at h
        have hP : va_P G vwCl (w_X10_joinTurnsOf Y h_t B_t B_t_classes B_t_current t_toldCount t_classes_n t_classes_leader_41 t_current_n t_current_cells) H := hP
        have hD : va_D A (w_X10_joinTurnsOf Y h_t B_t B_t_classes B_t_current t_toldCount t_classes_n t_classes_leader_41 t_current_n t_current_cells) := hD
        refine lv_istore (lv' := [(5, .int r41), (0, .ref h_t), (1, .int x1), (2, .int x2), (3, .int x3), (4, .int x4)]) hx hb dX10_joinTurnsOf_44 hl (by decide) rfl (fun ls hl => ?_)
        refine lv_aload_n hx hb dX10_joinTurnsOf_46 rfl (lv_at hl 1 rfl) ?_
        refine va_get (D := G) (ci := 9) (v := .ref (B_t 6)) (C := RX10) (T := TX10) (N := 15) hx hb hts inX10 hown hK hP 0 rfl rfl 6 (by decide) hf45 (fun _ h9 => h9) rfl dX10_joinTurnsOf_47 ?_
        refine lv_aload_n hx hb dX10_joinTurnsOf_50 rfl (lv_at hl 1 rfl) ?_
        refine va_get (D := G) (ci := 9) (v := .ref (B_t 0)) (C := RX10) (T := TX10) (N := 15) hx hb hts inX10 hown hK hP 0 rfl rfl 0 (by decide) hf14 (fun _ h9 => h9) rfl dX10_joinTurnsOf_51 ?_
        refine lv_iload hx hb dX10_joinTurnsOf_54 (lv_at hl 5 rfl) ?_
        refine lv_iload_n hx hb dX10_joinTurnsOf_56 rfl (lv_at hl 2 rfl) ?_
        refine mc_iV ⟨hx, hb, hml, hown, hts⟩ hK hE hA hP hD hS (c_X7_turned l G Y tF H.size (B_t 0) B_t_current t_current_n t_current_cells x4 x1 h) (cwV 2 hts gX10_joinTurnsOf_X7_turned rfl rfl rfl (by decide +kernel) ⟨Nat.le_trans (by decide) hRf, Nat.le_trans (by decide) hRl⟩) (fun u => (w_X10_joinTurnsOf Y h_t B_t B_t_classes B_t_current t_toldCount t_classes_n t_classes_leader_41 t_current_n t_current_cells)) [3, 4] [0, 1, 2] [0, 1, 2, 3, 4] rfl rfl rfl rfl (by decide) (fun _ => rfl) rfl 3 6 rfl rfl rfl rfl hl.1 rfl (Nat.le_of_ble_eq_true rfl) dX10_joinTurnsOf_57 (fun r57 u H locs h hP hD hS => ?_)
        try dsimp only at h
        have hP : va_P G vwCl (w_X10_joinTurnsOf Y h_t B_t B_t_classes B_t_current t_toldCount t_classes_n t_classes_leader_41 t_current_n t_current_cells) H := hP
        have hD : va_D A (w_X10_joinTurnsOf Y h_t B_t B_t_classes B_t_current t_toldCount t_classes_n t_classes_leader_41 t_current_n t_current_cells) := hD
        refine lv_aload_n hx hb dX10_joinTurnsOf_60 rfl (lv_at hl 1 rfl) ?_
        refine va_get (D := G) (ci := 9) (v := .ref (B_t 0)) (C := RX10) (T := TX10) (N := 15) hx hb hts inX10 hown hK hP 0 rfl rfl 0 (by decide) hf14 (fun _ h9 => h9) rfl dX10_joinTurnsOf_61 ?_
        refine lv_iload hx hb dX10_joinTurnsOf_64 (lv_at hl 5 rfl) ?_
        refine lv_iload_n hx hb dX10_joinTurnsOf_66 rfl (lv_at hl 3 rfl) ?_
        refine mc_iV ⟨hx, hb, hml, hown, hts⟩ hK hE hA hP hD hS (c_X7_turned l G Y tF H.size (B_t 0) B_t_current t_current_n t_current_cells x4 x2 h) (cwV 2 hts gX10_joinTurnsOf_X7_turned rfl rfl rfl (by decide +kernel) ⟨Nat.le_trans (by decide) hRf, Nat.le_trans (by decide) hRl⟩) (fun u => (w_X10_joinTurnsOf Y h_t B_t B_t_classes B_t_current t_toldCount t_classes_n t_classes_leader_41 t_current_n t_current_cells)) [3, 4] [0, 1, 2] [0, 1, 2, 3, 4] rfl rfl rfl rfl (by decide) (fun _ => rfl) rfl 3 6 rfl rfl rfl rfl hl.1 rfl (Nat.le_of_ble_eq_true rfl) dX10_joinTurnsOf_67 (fun r67 u H locs h hP hD hS => ?_)
        try dsimp only at h
        have hP : va_P G vwCl (w_X10_joinTurnsOf Y h_t B_t B_t_classes B_t_current t_toldCount t_classes_n t_classes_leader_41 t_current_n t_current_cells) H := hP
        have hD : va_D A (w_X10_joinTurnsOf Y h_t B_t B_t_classes B_t_current t_toldCount t_classes_n t_classes_leader_41 t_current_n t_current_cells) := hD
        refine mc_iV ⟨hx, hb, hml, hown, hts⟩ hK hE hA hP hD hS (c_X1_join l G Y tF H.size (B_t 6) B_t_classes t_classes_n t_classes_leader_41 r57 r67 h) (cwV 2 hts gX10_joinTurnsOf_X1_join rfl rfl rfl (by decide +kernel) ⟨Nat.le_trans (by decide) hRf, Nat.le_trans (by decide) hRl⟩) (fun u => (w_X10_joinTurnsOf Y h_t B_t B_t_classes B_t_current t_toldCount t_classes_n u t_current_n t_current_cells)) [1, 2] [0, 3, 4] [0, 3, 4, 1, 2] rfl rfl rfl rfl (by decide) (fun _ => rfl) rfl 1 1 rfl rfl rfl rfl hl.1 rfl (Nat.le_of_ble_eq_true rfl) dX10_joinTurnsOf_70 (fun r70 u H locs h hP hD hS => ?_)
        obtain ⟨t_classes_leader_70, rfl⟩ : ∃ z, z = u := ⟨_, rfl⟩
        try dsimp only at h
        have hP : va_P G vwCl (w_X10_joinTurnsOf Y h_t B_t B_t_classes B_t_current t_toldCount t_classes_n t_classes_leader_70 t_current_n t_current_cells) H := hP
        have hD : va_D A (w_X10_joinTurnsOf Y h_t B_t B_t_classes B_t_current t_toldCount t_classes_n t_classes_leader_70 t_current_n t_current_cells) := hD
        refine lv_istore (lv' := [(6, .int r70), (5, .int r41), (0, .ref h_t), (1, .int x1), (2, .int x2), (3, .int x3), (4, .int x4)]) hx hb dX10_joinTurnsOf_73 hl (by decide) rfl (fun ls hl => ?_)
        refine lv_iload_n hx hb dX10_joinTurnsOf_75 rfl (lv_at hl 5 rfl) ?_
        obtain ⟨ht, hf⟩ := h
        refine lv_if_ne (tgt := 89) hx hb dX10_joinTurnsOf_76 (by decide) (fun c9 => ?_) (fun c9 => ?_)
        · have h := ht c9
          exact J89 x4 t_classes_leader_70 H locs ls h hP hD hS (lv_sub hl [2, 3, 4, 6] rfl)
        · have h := hf c9
          refine lv_iload hx hb dX10_joinTurnsOf_79 (lv_at hl 1 rfl) ?_
          obtain ⟨ht, hf⟩ := h
          refine lv_if_ne (tgt := 89) hx hb dX10_joinTurnsOf_81 (by decide) (fun c9 => ?_) (fun c9 => ?_)
          · have h := ht c9
            exact J89 x4 t_classes_leader_70 H locs ls h hP hD hS (lv_sub hl [2, 3, 4, 6] rfl)
          · have h := hf c9
            refine lv_iload hx hb dX10_joinTurnsOf_84 (lv_at hl 0 rfl) ?_
            obtain ⟨ht, hf⟩ := h
            refine lv_if_eq (tgt := 93) hx hb dX10_joinTurnsOf_86 (by decide) (fun c9 => ?_) (fun c9 => ?_)
            · have h := ht c9
              refine lv_iconst (v := 0) hx hb dX10_joinTurnsOf_93 (by decide) ?_
              refine lv_istore_n (lv' := [(3, .int (0 : Int32)), (6, .int r70), (5, .int r41), (0, .ref h_t), (1, .int x1), (2, .int x2), (4, .int x4)]) hx hb dX10_joinTurnsOf_94 rfl hl (by decide) rfl (fun ls hl => ?_)
              refine lv_iinc (v := (x4 + 1)) (lv' := [(4, .int (x4 + 1)), (3, .int (0 : Int32)), (6, .int r70), (5, .int r41), (0, .ref h_t), (1, .int x1), (2, .int x2)]) hx hb dX10_joinTurnsOf_95 hl (k := 6) rfl rfl (by decide) rfl (fun ls hl => ?_)
              refine lv_goto (tgt := 5) hx hb dX10_joinTurnsOf_98 (by decide) ?_
              exact rec5 (0 : Int32) (x4 + 1) t_classes_leader_70 H locs ls h hP hD hS (lv_sub hl [4, 5, 6, 1, 0] rfl)
            · have h := hf c9
              exact J89 x4 t_classes_leader_70 H locs ls h hP hD hS (lv_sub hl [2, 3, 4, 6] rfl)
  exact L5 x1 x2 I5 m5 hB5 _ (0 : Int32) (0 : Int32) t_classes_leader H locs ls hI5 (Nat.lt_succ_self _) hP hD hS (lv_sub hl [2, 3, 4, 1, 0] rfl)

set_option maxHeartbeats 4000000 in
set_option maxRecDepth 100000 in
theorem c_X10_joinTurnsOf (l : Launch) (G : va_G) (Y : Nat → ClassId) (tF sz : Nat) (h_t : Nat) (B_t : Nat → Nat) (B_t_classes : Nat → Nat) (B_t_current : Nat → Nat) (t_toldCount : Int32) (t_classes_n : Int32) (t_classes_leader : Nat → Int32) (t_current_n : Int32) (t_current_cells : Nat → Int32) (x1 : Int32) (x2 : Int32) {K : Int32 → (Nat → Int32) → Prop} (h : pX10_joinTurnsOf t_classes_n t_classes_leader t_current_n t_current_cells x1 x2 K) : Met l yX10_joinTurnsOf wsX10_joinTurnsOf ({ frames := 2, cells := 0, slots := 0, locals := 49 }) (PcM G Y tF sz (w_X10_joinTurnsOf Y h_t B_t B_t_classes B_t_current t_toldCount t_classes_n t_classes_leader t_current_n t_current_cells) [.ref h_t, .int x1, .int x2]) (va_Qi (fun (r : Int32) (u : (Nat → Int32)) => K r u) (fun u t => BM G Y (va_A (w_X10_joinTurnsOf Y h_t B_t B_t_classes B_t_current t_toldCount t_classes_n t_classes_leader t_current_n t_current_cells) sz) (w_X10_joinTurnsOf Y h_t B_t B_t_classes B_t_current t_toldCount t_classes_n u t_current_n t_current_cells) t) (va_A (w_X10_joinTurnsOf Y h_t B_t B_t_classes B_t_current t_toldCount t_classes_n t_classes_leader t_current_n t_current_cells) sz)) 0 0 (va_A (w_X10_joinTurnsOf Y h_t B_t B_t_classes B_t_current t_toldCount t_classes_n t_classes_leader t_current_n t_current_cells) sz) := by
  refine Met.ofW (cc := cX10_joinTurnsOf) (maxL := 7) (ret := (some .boolean)) (by decide +kernel) rfl ?_
  intro p e s m args below meth c s₁ B hml hv
  obtain ⟨rfl, hsz, hP, hK, hD0, hE⟩ := hv
  have hts := atoms_spec (ws := wsX10_joinTurnsOf) B.pre
  have hown : s.vm.findClass RX10 = some m.cls := findClass_of_methodNamed B.named
  have hlocks := B.notSynchronized
  subst hsz
  have hD := hD0.self (sz := s.heap.size)
  exact wk_X10_joinTurnsOf h_t B_t B_t_classes B_t_current t_toldCount t_classes_n t_classes_leader t_current_n t_current_cells x1 x2 B.exec B.bytes hml hown hts hK hE (fun q h => Or.inr h) (Nat.le_refl _) (Nat.le_refl _) (fun r t_classes_leader H locs ls pc hP hD hS hz hk hd => W.zret (v := r) B.exec B.bytes B.returns hz.n (fun t ht hW => ⟨⟨r, t_classes_leader, rfl, hk, by rw [ht]; exact hP, va_K.moved hW.alike hK, hD⟩, hS.F ht⟩) hS.2.2 hd) hP hD h

abbrev w_X10_joinWhatMustBeOne (Y : Nat → ClassId) (h_t : Nat) (B_t : Nat → Nat) (B_t_classes : Nat → Nat) (B_t_current : Nat → Nat) (t_toldCount : Int32) (t_classes_n : Int32) (t_classes_leader : Nat → Int32) (t_current_n : Int32) (t_current_cells : Nat → Int32) : va_W := [(h_t, .inr (9, [.ref (B_t 0), .ref (B_t 1), .ref (B_t 2), .ref (B_t 3), .ref (B_t 4), .ref (B_t 5), .ref (B_t 6), .ref (B_t 7), .ref (B_t 8), .ref (B_t 9), .ref (B_t 10), .ref (B_t 11), .ref (B_t 12), .ref (B_t 13), .int t_toldCount])), ((B_t 6), .inr (1, [.ref (B_t_classes 0), .ref (B_t_classes 1), .int t_classes_n])), ((B_t_classes 0), .inl (Y 0, 8, .inl t_classes_leader)), ((B_t 0), .inr (6, [.ref (B_t_current 0), .int t_current_n])), ((B_t_current 0), .inl (Y 0, 64, .inl t_current_cells))]

set_option maxHeartbeats 4000000 in
set_option maxRecDepth 100000 in
theorem wk_X10_joinWhatMustBeOne {p : Program} {l : Launch} {e : Env} {R : Room} {s : State} {m : MethodId} {args : Array Value} {below : List Frame} {meth : Method} {c : Code} {Q : State → Prop} {G : va_G} {Y : Nat → ClassId} {tF : Nat} {A : Nat → Prop} (h_t : Nat) (B_t : Nat → Nat) (B_t_classes : Nat → Nat) (B_t_current : Nat → Nat) (t_toldCount : Int32) (t_classes_n : Int32) (t_classes_leader : Nat → Int32) (t_current_n : Int32) (t_current_cells : Nat → Int32) {K : (Nat → Int32) → Prop} (hx : p.tables.exec = Jvm.exec) (hb : c.code = cX10_joinWhatMustBeOne) (hml : c.maxLocals = 5) (hown : s.vm.findClass RX10 = some m.cls) (hts : ∀ w ∈ wsX10_joinWhatMustBeOne, w.before args s = true) (hK : va_K G vwCl (tyL Y) s) (hE : Ev A tF s) (hA : ∀ q, s.heap.size ≤ q → A q) (hRf : 3 ≤ R.frames) (hRl : 75 ≤ R.locals) (hret : ∀ (t_classes_leader : Nat → Int32) (H : Heap) (locs : List Loc) (ls : Array Slot) (pc : Nat), va_P G vwCl (w_X10_joinWhatMustBeOne Y h_t B_t B_t_classes B_t_current t_toldCount t_classes_n t_classes_leader t_current_n t_current_cells) H → va_D A (w_X10_joinWhatMustBeOne Y h_t B_t B_t_classes B_t_current t_toldCount t_classes_n t_classes_leader t_current_n t_current_cells) → va_S A s.heap H locs → K t_classes_leader → decode cX10_joinWhatMustBeOne pc = .ok (.return_, 1) → W p l e R s m args below meth c H locs 0 0 Q (F0 m pc ls [])) (hP : va_P G vwCl (w_X10_joinWhatMustBeOne Y h_t B_t B_t_classes B_t_current t_toldCount t_classes_n t_classes_leader t_current_n t_current_cells) s.heap) (hD : va_D A (w_X10_joinWhatMustBeOne Y h_t B_t B_t_classes B_t_current t_toldCount t_classes_n t_classes_leader t_current_n t_current_cells)) (h : pX10_joinWhatMustBeOne t_classes_n t_classes_leader t_current_n t_current_cells K) : W p l e R s m args below meth c s.heap [] 0 0 Q (entryFrame m ([.ref h_t] : List Value).toArray 5) := by
  have inX10 : ∀ w ∈ u_ws RX10 TX10 15, w ∈ wsX10_joinWhatMustBeOne := by decide +kernel
  have inX7 : ∀ w ∈ u_ws RX7 TX7 2, w ∈ wsX10_joinWhatMustBeOne := by decide +kernel
  have hf14 := hts (.fieldLink RX10 14 "RackBench" "current" "LRackBench$Table;") (by decide +kernel)
  have hf45 := hts (.fieldLink RX10 45 "RackBench" "classes" "LRackBench$Classes;") (by decide +kernel)
  have hl := lv_entry ([.ref h_t]) (n := 5) (Nat.le_of_ble_eq_true rfl)
  rw [lg_entry_eq]
  generalize (lg_sl ([.ref h_t]) ++ List.replicate (5 - (lg_sl ([.ref h_t])).length) Slot.unset).toArray = ls at hl ⊢
  have hl : lv_has ls 5 [(0, .ref h_t)] := hl
  generalize hH0 : s.heap = H at hP ⊢
  have hS : va_S A s.heap H [] := by rw [← hH0]; exact va_S.rf
  clear hH0
  generalize ([] : List Loc) = locs at hS ⊢
  refine lv_iconst (v := 1) hx hb dX10_joinWhatMustBeOne_0 (by decide) ?_
  refine lv_istore_n (lv' := [(1, .int (1 : Int32)), (0, .ref h_t)]) hx hb dX10_joinWhatMustBeOne_1 rfl hl (by decide) rfl (fun ls hl => ?_)
  refine lv_iconst (v := 0) hx hb dX10_joinWhatMustBeOne_2 (by decide) ?_
  refine lv_istore_n (lv' := [(2, .int (0 : Int32)), (1, .int (1 : Int32)), (0, .ref h_t)]) hx hb dX10_joinWhatMustBeOne_3 rfl hl (by decide) rfl (fun ls hl => ?_)
  obtain ⟨I4, m4, hI4, hB4⟩ := h
  have L4 : ∀  (I4 : Int32 → Int32 → (Nat → Int32) → Prop) (m4 : Int32 → Int32 → (Nat → Int32) → Nat), (∀ (x1 : Int32) (x2 : Int32) (t_classes_leader : Nat → Int32), I4 x1 x2 t_classes_leader → pX10_joinWhatMustBeOne_4 t_classes_n t_current_n t_current_cells K x1 x2 t_classes_leader (fun x1' x2' t_classes_leader' => I4 x1' x2' t_classes_leader' ∧ m4 x1' x2' t_classes_leader' < m4 x1 x2 t_classes_leader)) → ∀ (n : Nat) (x1 : Int32) (x2 : Int32) (t_classes_leader : Nat → Int32) (H : Heap) (locs : List Loc) (ls : Array Slot), I4 x1 x2 t_classes_leader → m4 x1 x2 t_classes_leader < n → va_P G vwCl (w_X10_joinWhatMustBeOne Y h_t B_t B_t_classes B_t_current t_toldCount t_classes_n t_classes_leader t_current_n t_current_cells) H → va_D A (w_X10_joinWhatMustBeOne Y h_t B_t B_t_classes B_t_current t_toldCount t_classes_n t_classes_leader t_current_n t_current_cells) → va_S A s.heap H locs → lv_has ls 5 [(0, .ref h_t), (1, .int x1), (2, .int x2)] → W p l e R s m args below meth c H locs 0 0 Q (F0 m 4 ls []) := by
    intro  I4 m4 hB4 n
    induction n with
    | zero => intro x1 x2 t_classes_leader H locs ls _ hm; exact absurd hm (Nat.not_lt_zero _)
    | succ n ih =>
      intro x1 x2 t_classes_leader H locs ls hI hm hP hD hS hl
      obtain ⟨R4, h, rec4⟩ : ∃ R4 : Int32 → Int32 → (Nat → Int32) → Prop, pX10_joinWhatMustBeOne_4 t_classes_n t_current_n t_current_cells K x1 x2 t_classes_leader R4 ∧ ∀ (x1 : Int32) (x2 : Int32) (t_classes_leader : Nat → Int32) (H : Heap) (locs : List Loc) (ls : Array Slot), R4 x1 x2 t_classes_leader → va_P G vwCl (w_X10_joinWhatMustBeOne Y h_t B_t B_t_classes B_t_current t_toldCount t_classes_n t_classes_leader t_current_n t_current_cells) H → va_D A (w_X10_joinWhatMustBeOne Y h_t B_t B_t_classes B_t_current t_toldCount t_classes_n t_classes_leader t_current_n t_current_cells) → va_S A s.heap H locs → lv_has ls 5 [(0, .ref h_t), (1, .int x1), (2, .int x2)] → W p l e R s m args below meth c H locs 0 0 Q (F0 m 4 ls []) := ⟨_, hB4 x1 x2 t_classes_leader hI, fun x1 x2 t_classes_leader H locs ls hh hP hD hS hl => ih x1 x2 t_classes_leader H locs ls hh.1 (Nat.lt_of_lt_of_le hh.2 (Nat.le_of_lt_succ hm)) hP hD hS hl⟩
      refine lv_iload_n hx hb dX10_joinWhatMustBeOne_4 rfl (lv_at hl 2 rfl) ?_
      refine lv_aload_n hx hb dX10_joinWhatMustBeOne_5 rfl (lv_at hl 0 rfl) ?_
      refine va_get (D := G) (ci := 9) (v := .ref (B_t 0)) (C := RX10) (T := TX10) (N := 15) hx hb hts inX10 hown hK hP 0 rfl rfl 0 (by decide) hf14 (fun _ h9 => h9) rfl dX10_joinWhatMustBeOne_6 ?_
      refine va_getN (D := G) (ci := 6) (v := .int t_current_n) (C := RX7) (T := TX7) (N := 2) hx hb hts inX7 hown hK hP 3 rfl rfl 1 (by decide) (hE.nest args 0 _ rfl) (fun _ h9 => h9) rfl dX10_joinWhatMustBeOne_9 ?_
      obtain ⟨ht, hf⟩ := h
      refine lv_icmp_ge (tgt := 94) hx hb dX10_joinWhatMustBeOne_12 (by decide) (fun c9 => ?_) (fun c9 => ?_)
      · have h := ht c9
        exact hret t_classes_leader H locs ls _ hP hD hS h dX10_joinWhatMustBeOne_94
      · have h := hf c9
        refine lv_iload_n hx hb dX10_joinWhatMustBeOne_15 rfl (lv_at hl 1 rfl) ?_
        obtain ⟨ht, hf⟩ := h
        refine lv_if_eq (tgt := 94) hx hb dX10_joinWhatMustBeOne_16 (by decide) (fun c9 => ?_) (fun c9 => ?_)
        · have h := ht c9
          exact hret t_classes_leader H locs ls _ hP hD hS h dX10_joinWhatMustBeOne_94
        · have h := hf c9
          refine lv_iconst (v := 0) hx hb dX10_joinWhatMustBeOne_19 (by decide) ?_
          refine lv_istore_n (lv' := [(1, .int (0 : Int32)), (0, .ref h_t), (2, .int x2)]) hx hb dX10_joinWhatMustBeOne_20 rfl hl (by decide) rfl (fun ls hl => ?_)
          refine lv_iconst (v := 0) hx hb dX10_joinWhatMustBeOne_21 (by decide) ?_
          refine lv_istore_n (lv' := [(3, .int (0 : Int32)), (1, .int (0 : Int32)), (0, .ref h_t), (2, .int x2)]) hx hb dX10_joinWhatMustBeOne_22 rfl hl (by decide) rfl (fun ls hl => ?_)
          obtain ⟨I23, m23, hI23, hB23⟩ := h
          have L23 : ∀ (x2 : Int32) (I23 : Int32 → Int32 → (Nat → Int32) → Prop) (m23 : Int32 → Int32 → (Nat → Int32) → Nat), (∀ (x1 : Int32) (x3 : Int32) (t_classes_leader : Nat → Int32), I23 x1 x3 t_classes_leader → pX10_joinWhatMustBeOne_23 t_classes_n t_current_n t_current_cells R4 K x2 x1 x3 t_classes_leader (fun x1' x3' t_classes_leader' => I23 x1' x3' t_classes_leader' ∧ m23 x1' x3' t_classes_leader' < m23 x1 x3 t_classes_leader)) → ∀ (n : Nat) (x1 : Int32) (x3 : Int32) (t_classes_leader : Nat → Int32) (H : Heap) (locs : List Loc) (ls : Array Slot), I23 x1 x3 t_classes_leader → m23 x1 x3 t_classes_leader < n → va_P G vwCl (w_X10_joinWhatMustBeOne Y h_t B_t B_t_classes B_t_current t_toldCount t_classes_n t_classes_leader t_current_n t_current_cells) H → va_D A (w_X10_joinWhatMustBeOne Y h_t B_t B_t_classes B_t_current t_toldCount t_classes_n t_classes_leader t_current_n t_current_cells) → va_S A s.heap H locs → lv_has ls 5 [(0, .ref h_t), (1, .int x1), (2, .int x2), (3, .int x3)] → W p l e R s m args below meth c H locs 0 0 Q (F0 m 23 ls []) := by
            intro x2 I23 m23 hB23 n
            induction n with
            | zero => intro x1 x3 t_classes_leader H locs ls _ hm; exact absurd hm (Nat.not_lt_zero _)
            | succ n ih =>
              intro x1 x3 t_classes_leader H locs ls hI hm hP hD hS hl
              obtain ⟨R23, h, rec23⟩ : ∃ R23 : Int32 → Int32 → (Nat → Int32) → Prop, pX10_joinWhatMustBeOne_23 t_classes_n t_current_n t_current_cells R4 K x2 x1 x3 t_classes_leader R23 ∧ ∀ (x1 : Int32) (x3 : Int32) (t_classes_leader : Nat → Int32) (H : Heap) (locs : List Loc) (ls : Array Slot), R23 x1 x3 t_classes_leader → va_P G vwCl (w_X10_joinWhatMustBeOne Y h_t B_t B_t_classes B_t_current t_toldCount t_classes_n t_classes_leader t_current_n t_current_cells) H → va_D A (w_X10_joinWhatMustBeOne Y h_t B_t B_t_classes B_t_current t_toldCount t_classes_n t_classes_leader t_current_n t_current_cells) → va_S A s.heap H locs → lv_has ls 5 [(0, .ref h_t), (1, .int x1), (2, .int x2), (3, .int x3)] → W p l e R s m args below meth c H locs 0 0 Q (F0 m 23 ls []) := ⟨_, hB23 x1 x3 t_classes_leader hI, fun x1 x3 t_classes_leader H locs ls hh hP hD hS hl => ih x1 x3 t_classes_leader H locs ls hh.1 (Nat.lt_of_lt_of_le hh.2 (Nat.le_of_lt_succ hm)) hP hD hS hl⟩
              refine lv_iload_n hx hb dX10_joinWhatMustBeOne_23 rfl (lv_at hl 3 rfl) ?_
              refine lv_aload_n hx hb dX10_joinWhatMustBeOne_24 rfl (lv_at hl 0 rfl) ?_
              refine va_get (D := G) (ci := 9) (v := .ref (B_t 0)) (C := RX10) (T := TX10) (N := 15) hx hb hts inX10 hown hK hP 0 rfl rfl 0 (by decide) hf14 (fun _ h9 => h9) rfl dX10_joinWhatMustBeOne_25 ?_
              refine va_getN (D := G) (ci := 6) (v := .int t_current_n) (C := RX7) (T := TX7) (N := 2) hx hb hts inX7 hown hK hP 3 rfl rfl 1 (by decide) (hE.nest args 0 _ rfl) (fun _ h9 => h9) rfl dX10_joinWhatMustBeOne_28 ?_
              obtain ⟨ht, hf⟩ := h
              refine lv_icmp_ge (tgt := 88) hx hb dX10_joinWhatMustBeOne_31 (by decide) (fun c9 => ?_) (fun c9 => ?_)
              · have h := ht c9
                refine lv_iinc (v := (x2 + 1)) (lv' := [(2, .int (x2 + 1)), (0, .ref h_t), (1, .int x1), (3, .int x3)]) hx hb dX10_joinWhatMustBeOne_88 hl (k := 2) rfl rfl (by decide) rfl (fun ls hl => ?_)
                refine lv_goto (tgt := 4) hx hb dX10_joinWhatMustBeOne_91 (by decide) ?_
                exact rec4 x1 (x2 + 1) t_classes_leader H locs ls h hP hD hS (lv_sub hl [1, 2, 0] rfl)
              · have h := hf c9
                refine lv_iload_n hx hb dX10_joinWhatMustBeOne_34 rfl (lv_at hl 3 rfl) ?_
                refine lv_iconst (v := 1) hx hb dX10_joinWhatMustBeOne_35 (by decide) ?_
                refine lv_iadd hx hb dX10_joinWhatMustBeOne_36 ?_
                refine lv_istore (lv' := [(4, .int (x3 + (1 : Int32))), (0, .ref h_t), (1, .int x1), (2, .int x2), (3, .int x3)]) hx hb dX10_joinWhatMustBeOne_37 hl (by decide) rfl (fun ls hl => ?_)
                obtain ⟨I39, m39, hI39, hB39⟩ := h
                have L39 : ∀ (x3 : Int32) (I39 : Int32 → Int32 → (Nat → Int32) → Prop) (m39 : Int32 → Int32 → (Nat → Int32) → Nat), (∀ (x1 : Int32) (x4 : Int32) (t_classes_leader : Nat → Int32), I39 x1 x4 t_classes_leader → pX10_joinWhatMustBeOne_39 t_classes_n t_current_n t_current_cells R4 R23 K x2 x3 x1 x4 t_classes_leader (fun x1' x4' t_classes_leader' => I39 x1' x4' t_classes_leader' ∧ m39 x1' x4' t_classes_leader' < m39 x1 x4 t_classes_leader)) → ∀ (n : Nat) (x1 : Int32) (x4 : Int32) (t_classes_leader : Nat → Int32) (H : Heap) (locs : List Loc) (ls : Array Slot), I39 x1 x4 t_classes_leader → m39 x1 x4 t_classes_leader < n → va_P G vwCl (w_X10_joinWhatMustBeOne Y h_t B_t B_t_classes B_t_current t_toldCount t_classes_n t_classes_leader t_current_n t_current_cells) H → va_D A (w_X10_joinWhatMustBeOne Y h_t B_t B_t_classes B_t_current t_toldCount t_classes_n t_classes_leader t_current_n t_current_cells) → va_S A s.heap H locs → lv_has ls 5 [(0, .ref h_t), (1, .int x1), (2, .int x2), (3, .int x3), (4, .int x4)] → W p l e R s m args below meth c H locs 0 0 Q (F0 m 39 ls []) := by
                  intro x3 I39 m39 hB39 n
                  induction n with
                  | zero => intro x1 x4 t_classes_leader H locs ls _ hm; exact absurd hm (Nat.not_lt_zero _)
                  | succ n ih =>
                    intro x1 x4 t_classes_leader H locs ls hI hm hP hD hS hl
                    obtain ⟨R39, h, rec39⟩ : ∃ R39 : Int32 → Int32 → (Nat → Int32) → Prop, pX10_joinWhatMustBeOne_39 t_classes_n t_current_n t_current_cells R4 R23 K x2 x3 x1 x4 t_classes_leader R39 ∧ ∀ (x1 : Int32) (x4 : Int32) (t_classes_leader : Nat → Int32) (H : Heap) (locs : List Loc) (ls : Array Slot), R39 x1 x4 t_classes_leader → va_P G vwCl (w_X10_joinWhatMustBeOne Y h_t B_t B_t_classes B_t_current t_toldCount t_classes_n t_classes_leader t_current_n t_current_cells) H → va_D A (w_X10_joinWhatMustBeOne Y h_t B_t B_t_classes B_t_current t_toldCount t_classes_n t_classes_leader t_current_n t_current_cells) → va_S A s.heap H locs → lv_has ls 5 [(0, .ref h_t), (1, .int x1), (2, .int x2), (3, .int x3), (4, .int x4)] → W p l e R s m args below meth c H locs 0 0 Q (F0 m 39 ls []) := ⟨_, hB39 x1 x4 t_classes_leader hI, fun x1 x4 t_classes_leader H locs ls hh hP hD hS hl => ih x1 x4 t_classes_leader H locs ls hh.1 (Nat.lt_of_lt_of_le hh.2 (Nat.le_of_lt_succ hm)) hP hD hS hl⟩
                    refine lv_iload hx hb dX10_joinWhatMustBeOne_39 (lv_at hl 4 rfl) ?_
                    refine lv_aload_n hx hb dX10_joinWhatMustBeOne_41 rfl (lv_at hl 0 rfl) ?_
                    refine va_get (D := G) (ci := 9) (v := .ref (B_t 0)) (C := RX10) (T := TX10) (N := 15) hx hb hts inX10 hown hK hP 0 rfl rfl 0 (by decide) hf14 (fun _ h9 => h9) rfl dX10_joinWhatMustBeOne_42 ?_
                    refine va_getN (D := G) (ci := 6) (v := .int t_current_n) (C := RX7) (T := TX7) (N := 2) hx hb hts inX7 hown hK hP 3 rfl rfl 1 (by decide) (hE.nest args 0 _ rfl) (fun _ h9 => h9) rfl dX10_joinWhatMustBeOne_45 ?_
                    obtain ⟨ht, hf⟩ := h
                    refine lv_icmp_ge (tgt := 82) hx hb dX10_joinWhatMustBeOne_48 (by decide) (fun c9 => ?_) (fun c9 => ?_)
                    · have h := ht c9
                      refine lv_iinc (v := (x3 + 1)) (lv' := [(3, .int (x3 + 1)), (0, .ref h_t), (1, .int x1), (2, .int x2), (4, .int x4)]) hx hb dX10_joinWhatMustBeOne_82 hl (k := 3) rfl rfl (by decide) rfl (fun ls hl => ?_)
                      refine lv_goto (tgt := 23) hx hb dX10_joinWhatMustBeOne_85 (by decide) ?_
                      exact rec23 x1 (x3 + 1) t_classes_leader H locs ls h hP hD hS (lv_sub hl [1, 2, 3, 0] rfl)
                    · have h := hf c9
                      refine lv_aload_n hx hb dX10_joinWhatMustBeOne_51 rfl (lv_at hl 0 rfl) ?_
                      refine va_get (D := G) (ci := 9) (v := .ref (B_t 6)) (C := RX10) (T := TX10) (N := 15) hx hb hts inX10 hown hK hP 0 rfl rfl 6 (by decide) hf45 (fun _ h9 => h9) rfl dX10_joinWhatMustBeOne_52 ?_
                      refine lv_iload_n hx hb dX10_joinWhatMustBeOne_55 rfl (lv_at hl 3 rfl) ?_
                      refine lv_iload hx hb dX10_joinWhatMustBeOne_56 (lv_at hl 4 rfl) ?_
                      refine mc_iV ⟨hx, hb, hml, hown, hts⟩ hK hE hA hP hD hS (c_X1_areOne l G Y tF H.size (B_t 6) B_t_classes t_classes_n t_classes_leader x3 x4 h) (cwV 2 hts gX10_joinWhatMustBeOne_X1_areOne rfl rfl rfl (by decide +kernel) ⟨Nat.le_trans (by decide) hRf, Nat.le_trans (by decide) hRl⟩) (fun u => (w_X10_joinWhatMustBeOne Y h_t B_t B_t_classes B_t_current t_toldCount t_classes_n t_classes_leader t_current_n t_current_cells)) [1, 2] [0, 3, 4] [0, 3, 4, 1, 2] rfl rfl rfl rfl (by decide) (fun _ => rfl) rfl 1 1 rfl rfl rfl rfl hl.1 rfl (Nat.le_of_ble_eq_true rfl) dX10_joinWhatMustBeOne_58 (fun r58 u H locs h hP hD hS => ?_)
                      try dsimp only at h
                      have hP : va_P G vwCl (w_X10_joinWhatMustBeOne Y h_t B_t B_t_classes B_t_current t_toldCount t_classes_n t_classes_leader t_current_n t_current_cells) H := hP
                      have hD : va_D A (w_X10_joinWhatMustBeOne Y h_t B_t B_t_classes B_t_current t_toldCount t_classes_n t_classes_leader t_current_n t_current_cells) := hD
                      obtain ⟨ht, hf⟩ := h
                      refine lv_if_eq (tgt := 76) hx hb dX10_joinWhatMustBeOne_61 (by decide) (fun c9 => ?_) (fun c9 => ?_)
                      · have h := ht c9
                        refine lv_iinc (v := (x4 + 1)) (lv' := [(4, .int (x4 + 1)), (0, .ref h_t), (1, .int x1), (2, .int x2), (3, .int x3)]) hx hb dX10_joinWhatMustBeOne_76 hl (k := 4) rfl rfl (by decide) rfl (fun ls hl => ?_)
                        refine lv_goto (tgt := 39) hx hb dX10_joinWhatMustBeOne_79 (by decide) ?_
                        exact rec39 x1 (x4 + 1) t_classes_leader H locs ls h hP hD hS (lv_sub hl [1, 2, 3, 4, 0] rfl)
                      · have h := hf c9
                        refine lv_aload_n hx hb dX10_joinWhatMustBeOne_64 rfl (lv_at hl 0 rfl) ?_
                        refine lv_iload_n hx hb dX10_joinWhatMustBeOne_65 rfl (lv_at hl 3 rfl) ?_
                        refine lv_iload hx hb dX10_joinWhatMustBeOne_66 (lv_at hl 4 rfl) ?_
                        refine mc_iV ⟨hx, hb, hml, hown, hts⟩ hK hE hA hP hD hS (c_X10_joinTurnsOf l G Y tF H.size h_t B_t B_t_classes B_t_current t_toldCount t_classes_n t_classes_leader t_current_n t_current_cells x3 x4 h) (cwV 2 hts gX10_joinWhatMustBeOne_X10_joinTurnsOf rfl rfl rfl (by decide +kernel) ⟨Nat.le_trans (by decide) hRf, Nat.le_trans (by decide) hRl⟩) (fun u => (w_X10_joinWhatMustBeOne Y h_t B_t B_t_classes B_t_current t_toldCount t_classes_n u t_current_n t_current_cells)) [0, 1, 2, 3, 4] [] [0, 1, 2, 3, 4] rfl rfl rfl rfl (by decide) (fun _ => rfl) rfl 0 9 rfl rfl rfl rfl hl.1 rfl (Nat.le_of_ble_eq_true rfl) dX10_joinWhatMustBeOne_68 (fun r68 u H locs h hP hD hS => ?_)
                        obtain ⟨t_classes_leader_68, rfl⟩ : ∃ z, z = u := ⟨_, rfl⟩
                        try dsimp only at h
                        have hP : va_P G vwCl (w_X10_joinWhatMustBeOne Y h_t B_t B_t_classes B_t_current t_toldCount t_classes_n t_classes_leader_68 t_current_n t_current_cells) H := hP
                        have hD : va_D A (w_X10_joinWhatMustBeOne Y h_t B_t B_t_classes B_t_current t_toldCount t_classes_n t_classes_leader_68 t_current_n t_current_cells) := hD
                        obtain ⟨ht, hf⟩ := h
                        refine lv_if_eq (tgt := 76) hx hb dX10_joinWhatMustBeOne_71 (by decide) (fun c9 => ?_) (fun c9 => ?_)
                        · have h := ht c9
                          refine lv_iinc (v := (x4 + 1)) (lv' := [(4, .int (x4 + 1)), (0, .ref h_t), (1, .int x1), (2, .int x2), (3, .int x3)]) hx hb dX10_joinWhatMustBeOne_76 hl (k := 4) rfl rfl (by decide) rfl (fun ls hl => ?_)
                          refine lv_goto (tgt := 39) hx hb dX10_joinWhatMustBeOne_79 (by decide) ?_
                          exact rec39 x1 (x4 + 1) t_classes_leader_68 H locs ls h hP hD hS (lv_sub hl [1, 2, 3, 4, 0] rfl)
                        · have h := hf c9
                          refine lv_iconst (v := 1) hx hb dX10_joinWhatMustBeOne_74 (by decide) ?_
                          refine lv_istore_n (lv' := [(1, .int (1 : Int32)), (0, .ref h_t), (2, .int x2), (3, .int x3), (4, .int x4)]) hx hb dX10_joinWhatMustBeOne_75 rfl hl (by decide) rfl (fun ls hl => ?_)
                          refine lv_iinc (v := (x4 + 1)) (lv' := [(4, .int (x4 + 1)), (1, .int (1 : Int32)), (0, .ref h_t), (2, .int x2), (3, .int x3)]) hx hb dX10_joinWhatMustBeOne_76 hl (k := 4) rfl rfl (by decide) rfl (fun ls hl => ?_)
                          refine lv_goto (tgt := 39) hx hb dX10_joinWhatMustBeOne_79 (by decide) ?_
                          exact rec39 (1 : Int32) (x4 + 1) t_classes_leader_68 H locs ls h hP hD hS (lv_sub hl [2, 1, 3, 4, 0] rfl)
                exact L39 x3 I39 m39 hB39 _ x1 (x3 + (1 : Int32)) t_classes_leader H locs ls hI39 (Nat.lt_succ_self _) hP hD hS (lv_sub hl [1, 2, 3, 4, 0] rfl)
          exact L23 x2 I23 m23 hB23 _ (0 : Int32) (0 : Int32) t_classes_leader H locs ls hI23 (Nat.lt_succ_self _) hP hD hS (lv_sub hl [2, 1, 3, 0] rfl)
  exact L4  I4 m4 hB4 _ (1 : Int32) (0 : Int32) t_classes_leader H locs ls hI4 (Nat.lt_succ_self _) hP hD hS (lv_sub hl [2, 1, 0] rfl)

set_option maxHeartbeats 4000000 in
set_option maxRecDepth 100000 in
theorem c_X10_joinWhatMustBeOne (l : Launch) (G : va_G) (Y : Nat → ClassId) (tF sz : Nat) (h_t : Nat) (B_t : Nat → Nat) (B_t_classes : Nat → Nat) (B_t_current : Nat → Nat) (t_toldCount : Int32) (t_classes_n : Int32) (t_classes_leader : Nat → Int32) (t_current_n : Int32) (t_current_cells : Nat → Int32) {K : (Nat → Int32) → Prop} (h : pX10_joinWhatMustBeOne t_classes_n t_classes_leader t_current_n t_current_cells K) : Met l yX10_joinWhatMustBeOne wsX10_joinWhatMustBeOne ({ frames := 3, cells := 0, slots := 0, locals := 75 }) (PcM G Y tF sz (w_X10_joinWhatMustBeOne Y h_t B_t B_t_classes B_t_current t_toldCount t_classes_n t_classes_leader t_current_n t_current_cells) [.ref h_t]) (va_Qv (fun u : (Nat → Int32) => K u) (fun u t => BM G Y (va_A (w_X10_joinWhatMustBeOne Y h_t B_t B_t_classes B_t_current t_toldCount t_classes_n t_classes_leader t_current_n t_current_cells) sz) (w_X10_joinWhatMustBeOne Y h_t B_t B_t_classes B_t_current t_toldCount t_classes_n u t_current_n t_current_cells) t) (va_A (w_X10_joinWhatMustBeOne Y h_t B_t B_t_classes B_t_current t_toldCount t_classes_n t_classes_leader t_current_n t_current_cells) sz)) 0 0 (va_A (w_X10_joinWhatMustBeOne Y h_t B_t B_t_classes B_t_current t_toldCount t_classes_n t_classes_leader t_current_n t_current_cells) sz) := by
  refine Met.ofW (cc := cX10_joinWhatMustBeOne) (maxL := 5) (ret := none) (by decide +kernel) rfl ?_
  intro p e s m args below meth c s₁ B hml hv
  obtain ⟨rfl, hsz, hP, hK, hD0, hE⟩ := hv
  have hts := atoms_spec (ws := wsX10_joinWhatMustBeOne) B.pre
  have hown : s.vm.findClass RX10 = some m.cls := findClass_of_methodNamed B.named
  have hlocks := B.notSynchronized
  subst hsz
  have hD := hD0.self (sz := s.heap.size)
  exact wk_X10_joinWhatMustBeOne h_t B_t B_t_classes B_t_current t_toldCount t_classes_n t_classes_leader t_current_n t_current_cells B.exec B.bytes hml hown hts hK hE (fun q h => Or.inr h) (Nat.le_refl _) (Nat.le_refl _) (fun t_classes_leader H locs ls pc hP hD hS hk hd => W.vret B.exec B.bytes B.returns (fun t ht hW => ⟨⟨t_classes_leader, rfl, hk, by rw [ht]; exact hP, va_K.moved hW.alike hK, hD⟩, hS.F ht⟩) hS.2.2 hd) hP hD h

abbrev w_X10_part (Y : Nat → ClassId) (h_t : Nat) (B_t : Nat → Nat) (B_t_classes : Nat → Nat) (B_t_current : Nat → Nat) (B_t_draft : Nat → Nat) (B_t_twisting : Nat → Nat) (t_toldCount : Int32) (t_classes_n : Int32) (t_classes_leader : Nat → Int32) (t_classes_numbers : Nat → Int32) (t_current_n : Int32) (t_current_cells : Nat → Int32) (t_draft_n : Int32) (t_draft_cells : Nat → Int32) (t_twisting_modulus : Int32) (t_twisting_values : Nat → Int32) : va_W := [(h_t, .inr (9, [.ref (B_t 0), .ref (B_t 1), .ref (B_t 2), .ref (B_t 3), .ref (B_t 4), .ref (B_t 5), .ref (B_t 6), .ref (B_t 7), .ref (B_t 8), .ref (B_t 9), .ref (B_t 10), .ref (B_t 11), .ref (B_t 12), .ref (B_t 13), .int t_toldCount])), ((B_t 6), .inr (1, [.ref (B_t_classes 0), .ref (B_t_classes 1), .int t_classes_n])), ((B_t_classes 0), .inl (Y 0, 8, .inl t_classes_leader)), ((B_t_classes 1), .inl (Y 0, 8, .inl t_classes_numbers)), ((B_t 0), .inr (6, [.ref (B_t_current 0), .int t_current_n])), ((B_t_current 0), .inl (Y 0, 64, .inl t_current_cells)), ((B_t 1), .inr (6, [.ref (B_t_draft 0), .int t_draft_n])), ((B_t_draft 0), .inl (Y 0, 64, .inl t_draft_cells)), ((B_t 4), .inr (8, [.ref (B_t_twisting 0), .int t_twisting_modulus])), ((B_t_twisting 0), .inl (Y 0, 64, .inl t_twisting_values))]

set_option maxHeartbeats 4000000 in
set_option maxRecDepth 100000 in
theorem wk_X10_part {p : Program} {l : Launch} {e : Env} {R : Room} {s : State} {m : MethodId} {args : Array Value} {below : List Frame} {meth : Method} {c : Code} {Q : State → Prop} {G : va_G} {Y : Nat → ClassId} {tF : Nat} {A : Nat → Prop} (h_t : Nat) (B_t : Nat → Nat) (B_t_classes : Nat → Nat) (B_t_current : Nat → Nat) (B_t_draft : Nat → Nat) (B_t_twisting : Nat → Nat) (t_toldCount : Int32) (t_classes_n : Int32) (t_classes_leader : Nat → Int32) (t_classes_numbers : Nat → Int32) (t_current_n : Int32) (t_current_cells : Nat → Int32) (t_draft_n : Int32) (t_draft_cells : Nat → Int32) (t_twisting_modulus : Int32) (t_twisting_values : Nat → Int32) (x1 : Int32) (x2 : Int32) {K : Int32 → Int32 → (Nat → Int32) → (Nat → Int32) → Int32 → (Nat → Int32) → Int32 → (Nat → Int32) → (Nat → Int32) → Prop} (hx : p.tables.exec = Jvm.exec) (hb : c.code = cX10_part) (hml : c.maxLocals = 5) (hown : s.vm.findClass RX10 = some m.cls) (hts : ∀ w ∈ wsX10_part, w.before args s = true) (hK : va_K G vwCl (tyL Y) s) (hE : Ev A tF s) (hA : ∀ q, s.heap.size ≤ q → A q) (hRf : 4 ≤ R.frames) (hRl : 105 ≤ R.locals) (hret : ∀ (r : Int32) (t_classes_n : Int32) (t_classes_leader : Nat → Int32) (t_classes_numbers : Nat → Int32) (t_current_n : Int32) (t_current_cells : Nat → Int32) (t_draft_n : Int32) (t_draft_cells : Nat → Int32) (t_twisting_values : Nat → Int32) (H : Heap) (locs : List Loc) (ls : Array Slot) (pc : Nat), va_P G vwCl (w_X10_part Y h_t B_t B_t_classes B_t_current B_t_draft B_t_twisting t_toldCount t_classes_n t_classes_leader t_classes_numbers t_current_n t_current_cells t_draft_n t_draft_cells t_twisting_modulus t_twisting_values) H → va_D A (w_X10_part Y h_t B_t B_t_classes B_t_current B_t_draft B_t_twisting t_toldCount t_classes_n t_classes_leader t_classes_numbers t_current_n t_current_cells t_draft_n t_draft_cells t_twisting_modulus t_twisting_values) → va_S A s.heap H locs → K r t_classes_n t_classes_leader t_classes_numbers t_current_n t_current_cells t_draft_n t_draft_cells t_twisting_values → decode cX10_part pc = .ok (.ireturn, 1) → W p l e R s m args below meth c H locs 0 0 Q (F0 m pc ls [.int r])) (hP : va_P G vwCl (w_X10_part Y h_t B_t B_t_classes B_t_current B_t_draft B_t_twisting t_toldCount t_classes_n t_classes_leader t_classes_numbers t_current_n t_current_cells t_draft_n t_draft_cells t_twisting_modulus t_twisting_values) s.heap) (hD : va_D A (w_X10_part Y h_t B_t B_t_classes B_t_current B_t_draft B_t_twisting t_toldCount t_classes_n t_classes_leader t_classes_numbers t_current_n t_current_cells t_draft_n t_draft_cells t_twisting_modulus t_twisting_values)) (h : pX10_part t_classes_n t_classes_leader t_classes_numbers t_current_n t_current_cells t_draft_n t_draft_cells t_twisting_values x1 x2 K) : W p l e R s m args below meth c s.heap [] 0 0 Q (entryFrame m ([.ref h_t, .int x1, .int x2] : List Value).toArray 5) := by
  have inX10 : ∀ w ∈ u_ws RX10 TX10 15, w ∈ wsX10_part := by decide +kernel
  have inX7 : ∀ w ∈ u_ws RX7 TX7 2, w ∈ wsX10_part := by decide +kernel
  have hf14 := hts (.fieldLink RX10 14 "RackBench" "current" "LRackBench$Table;") (by decide +kernel)
  have hf18 := hts (.fieldLink RX10 18 "RackBench" "draft" "LRackBench$Table;") (by decide +kernel)
  have hf45 := hts (.fieldLink RX10 45 "RackBench" "classes" "LRackBench$Classes;") (by decide +kernel)
  have hl := lv_entry ([.ref h_t, .int x1, .int x2]) (n := 5) (Nat.le_of_ble_eq_true rfl)
  rw [lg_entry_eq]
  generalize (lg_sl ([.ref h_t, .int x1, .int x2]) ++ List.replicate (5 - (lg_sl ([.ref h_t, .int x1, .int x2])).length) Slot.unset).toArray = ls at hl ⊢
  have hl : lv_has ls 5 [(0, .ref h_t), (1, .int x1), (2, .int x2)] := hl
  generalize hH0 : s.heap = H at hP ⊢
  have hS : va_S A s.heap H [] := by rw [← hH0]; exact va_S.rf
  clear hH0
  generalize ([] : List Loc) = locs at hS ⊢
  refine lv_aload_n hx hb dX10_part_0 rfl (lv_at hl 0 rfl) ?_
  refine va_get (D := G) (ci := 9) (v := .ref (B_t 0)) (C := RX10) (T := TX10) (N := 15) hx hb hts inX10 hown hK hP 0 rfl rfl 0 (by decide) hf14 (fun _ h9 => h9) rfl dX10_part_1 ?_
  refine lv_iload_n hx hb dX10_part_4 rfl (lv_at hl 1 rfl) ?_
  refine mc_iV ⟨hx, hb, hml, hown, hts⟩ hK hE hA hP hD hS (c_X7_has l G Y tF H.size (B_t 0) B_t_current t_current_n x1 h) (cwV 1 hts gX10_part_X7_has rfl rfl rfl (by decide +kernel) ⟨Nat.le_trans (by decide) hRf, Nat.le_trans (by decide) hRl⟩) (fun u => (w_X10_part Y h_t B_t B_t_classes B_t_current B_t_draft B_t_twisting t_toldCount t_classes_n t_classes_leader t_classes_numbers t_current_n t_current_cells t_draft_n t_draft_cells t_twisting_modulus t_twisting_values)) [4] [0, 1, 2, 3, 5, 6, 7, 8, 9] [0, 1, 2, 3, 9, 4, 5, 6, 7, 8] rfl rfl rfl rfl (by decide) (fun _ => rfl) rfl 4 6 rfl rfl rfl rfl hl.1 rfl (Nat.le_of_ble_eq_true rfl) dX10_part_5 (fun r5 u H locs h hP hD hS => ?_)
  try dsimp only at h
  have hP : va_P G vwCl (w_X10_part Y h_t B_t B_t_classes B_t_current B_t_draft B_t_twisting t_toldCount t_classes_n t_classes_leader t_classes_numbers t_current_n t_current_cells t_draft_n t_draft_cells t_twisting_modulus t_twisting_values) H := hP
  have hD : va_D A (w_X10_part Y h_t B_t B_t_classes B_t_current B_t_draft B_t_twisting t_toldCount t_classes_n t_classes_leader t_classes_numbers t_current_n t_current_cells t_draft_n t_draft_cells t_twisting_modulus t_twisting_values) := hD
  obtain ⟨ht, hf⟩ := h
  refine lv_if_eq (tgt := 32) hx hb dX10_part_8 (by decide) (fun c9 => ?_) (fun c9 => ?_)
  · have h := ht c9
    refine lv_iconst (v := -1) hx hb dX10_part_32 (by decide) ?_
    exact hret (-1 : Int32) t_classes_n t_classes_leader t_classes_numbers t_current_n t_current_cells t_draft_n t_draft_cells t_twisting_values H locs ls _ hP hD hS h dX10_part_33
  · have h := hf c9
    refine lv_aload_n hx hb dX10_part_11 rfl (lv_at hl 0 rfl) ?_
    refine va_get (D := G) (ci := 9) (v := .ref (B_t 0)) (C := RX10) (T := TX10) (N := 15) hx hb hts inX10 hown hK hP 0 rfl rfl 0 (by decide) hf14 (fun _ h9 => h9) rfl dX10_part_12 ?_
    refine lv_iload_n hx hb dX10_part_15 rfl (lv_at hl 2 rfl) ?_
    refine mc_iV ⟨hx, hb, hml, hown, hts⟩ hK hE hA hP hD hS (c_X7_has l G Y tF H.size (B_t 0) B_t_current t_current_n x2 h) (cwV 1 hts gX10_part_X7_has rfl rfl rfl (by decide +kernel) ⟨Nat.le_trans (by decide) hRf, Nat.le_trans (by decide) hRl⟩) (fun u => (w_X10_part Y h_t B_t B_t_classes B_t_current B_t_draft B_t_twisting t_toldCount t_classes_n t_classes_leader t_classes_numbers t_current_n t_current_cells t_draft_n t_draft_cells t_twisting_modulus t_twisting_values)) [4] [0, 1, 2, 3, 5, 6, 7, 8, 9] [0, 1, 2, 3, 9, 4, 5, 6, 7, 8] rfl rfl rfl rfl (by decide) (fun _ => rfl) rfl 4 6 rfl rfl rfl rfl hl.1 rfl (Nat.le_of_ble_eq_true rfl) dX10_part_16 (fun r16 u H locs h hP hD hS => ?_)
    try dsimp only at h
    have hP : va_P G vwCl (w_X10_part Y h_t B_t B_t_classes B_t_current B_t_draft B_t_twisting t_toldCount t_classes_n t_classes_leader t_classes_numbers t_current_n t_current_cells t_draft_n t_draft_cells t_twisting_modulus t_twisting_values) H := hP
    have hD : va_D A (w_X10_part Y h_t B_t B_t_classes B_t_current B_t_draft B_t_twisting t_toldCount t_classes_n t_classes_leader t_classes_numbers t_current_n t_current_cells t_draft_n t_draft_cells t_twisting_modulus t_twisting_values) := hD
    obtain ⟨ht, hf⟩ := h
    refine lv_if_eq (tgt := 32) hx hb dX10_part_19 (by decide) (fun c9 => ?_) (fun c9 => ?_)
    · have h := ht c9
      refine lv_iconst (v := -1) hx hb dX10_part_32 (by decide) ?_
      exact hret (-1 : Int32) t_classes_n t_classes_leader t_classes_numbers t_current_n t_current_cells t_draft_n t_draft_cells t_twisting_values H locs ls _ hP hD hS h dX10_part_33
    · have h := hf c9
      refine lv_aload_n hx hb dX10_part_22 rfl (lv_at hl 0 rfl) ?_
      refine va_get (D := G) (ci := 9) (v := .ref (B_t 0)) (C := RX10) (T := TX10) (N := 15) hx hb hts inX10 hown hK hP 0 rfl rfl 0 (by decide) hf14 (fun _ h9 => h9) rfl dX10_part_23 ?_
      refine mc_iV ⟨hx, hb, hml, hown, hts⟩ hK hE hA hP hD hS (c_X7_isRack l G Y tF H.size (B_t 0) B_t_current t_current_n t_current_cells h) (cwV 0 hts gX10_part_X7_isRack rfl rfl rfl (by decide +kernel) ⟨Nat.le_trans (by decide) hRf, Nat.le_trans (by decide) hRl⟩) (fun u => (w_X10_part Y h_t B_t B_t_classes B_t_current B_t_draft B_t_twisting t_toldCount t_classes_n t_classes_leader t_classes_numbers t_current_n t_current_cells t_draft_n t_draft_cells t_twisting_modulus t_twisting_values)) [4, 5] [0, 1, 2, 3, 6, 7, 8, 9] [0, 1, 2, 3, 8, 9, 4, 5, 6, 7] rfl rfl rfl rfl (by decide) (fun _ => rfl) rfl 4 6 rfl rfl rfl rfl hl.1 rfl (Nat.le_of_ble_eq_true rfl) dX10_part_26 (fun r26 u H locs h hP hD hS => ?_)
      try dsimp only at h
      have hP : va_P G vwCl (w_X10_part Y h_t B_t B_t_classes B_t_current B_t_draft B_t_twisting t_toldCount t_classes_n t_classes_leader t_classes_numbers t_current_n t_current_cells t_draft_n t_draft_cells t_twisting_modulus t_twisting_values) H := hP
      have hD : va_D A (w_X10_part Y h_t B_t B_t_classes B_t_current B_t_draft B_t_twisting t_toldCount t_classes_n t_classes_leader t_classes_numbers t_current_n t_current_cells t_draft_n t_draft_cells t_twisting_modulus t_twisting_values) := hD
      obtain ⟨ht, hf⟩ := h
      refine lv_if_ne (tgt := 34) hx hb dX10_part_29 (by decide) (fun c9 => ?_) (fun c9 => ?_)
      · have h := ht c9
        refine lv_aload_n hx hb dX10_part_34 rfl (lv_at hl 0 rfl) ?_
        refine va_get (D := G) (ci := 9) (v := .ref (B_t 6)) (C := RX10) (T := TX10) (N := 15) hx hb hts inX10 hown hK hP 0 rfl rfl 6 (by decide) hf45 (fun _ h9 => h9) rfl dX10_part_35 ?_
        refine lv_aload_n hx hb dX10_part_38 rfl (lv_at hl 0 rfl) ?_
        refine va_get (D := G) (ci := 9) (v := .ref (B_t 0)) (C := RX10) (T := TX10) (N := 15) hx hb hts inX10 hown hK hP 0 rfl rfl 0 (by decide) hf14 (fun _ h9 => h9) rfl dX10_part_39 ?_
        refine va_getN (D := G) (ci := 6) (v := .int t_current_n) (C := RX7) (T := TX7) (N := 2) hx hb hts inX7 hown hK hP 4 rfl rfl 1 (by decide) (hE.nest args 0 _ rfl) (fun _ h9 => h9) rfl dX10_part_42 ?_
        refine mc_vV ⟨hx, hb, hml, hown, hts⟩ hK hE hA hP hD hS (c_X1_split l G Y tF H.size (B_t 6) B_t_classes t_classes_n t_classes_leader t_current_n h) (cwV 1 hts gX10_part_X1_split rfl rfl rfl (by decide +kernel) ⟨Nat.le_trans (by decide) hRf, Nat.le_trans (by decide) hRl⟩) (fun u => (w_X10_part Y h_t B_t B_t_classes B_t_current B_t_draft B_t_twisting t_toldCount u.1 u.2 t_classes_numbers t_current_n t_current_cells t_draft_n t_draft_cells t_twisting_modulus t_twisting_values)) [1, 2] [0, 3, 4, 5, 6, 7, 8, 9] [0, 8, 9, 1, 2, 3, 4, 5, 6, 7] rfl rfl rfl rfl (by decide) (fun _ => rfl) rfl 1 1 rfl rfl rfl rfl hl.1 rfl (Nat.le_of_ble_eq_true rfl) dX10_part_45 (fun u H locs h hP hD hS => ?_)
        obtain ⟨t_classes_n_45, t_classes_leader_45⟩ := u
        try dsimp only at h
        have hP : va_P G vwCl (w_X10_part Y h_t B_t B_t_classes B_t_current B_t_draft B_t_twisting t_toldCount t_classes_n_45 t_classes_leader_45 t_classes_numbers t_current_n t_current_cells t_draft_n t_draft_cells t_twisting_modulus t_twisting_values) H := hP
        have hD : va_D A (w_X10_part Y h_t B_t B_t_classes B_t_current B_t_draft B_t_twisting t_toldCount t_classes_n_45 t_classes_leader_45 t_classes_numbers t_current_n t_current_cells t_draft_n t_draft_cells t_twisting_modulus t_twisting_values) := hD
        refine lv_aload_n hx hb dX10_part_48 rfl (lv_at hl 0 rfl) ?_
        refine va_get (D := G) (ci := 9) (v := .ref (B_t 6)) (C := RX10) (T := TX10) (N := 15) hx hb hts inX10 hown hK hP 0 rfl rfl 6 (by decide) hf45 (fun _ h9 => h9) rfl dX10_part_49 ?_
        refine lv_iload_n hx hb dX10_part_52 rfl (lv_at hl 1 rfl) ?_
        refine lv_iload_n hx hb dX10_part_53 rfl (lv_at hl 2 rfl) ?_
        refine mc_iV ⟨hx, hb, hml, hown, hts⟩ hK hE hA hP hD hS (c_X1_join l G Y tF H.size (B_t 6) B_t_classes t_classes_n_45 t_classes_leader_45 x1 x2 h) (cwV 2 hts gX10_part_X1_join rfl rfl rfl (by decide +kernel) ⟨Nat.le_trans (by decide) hRf, Nat.le_trans (by decide) hRl⟩) (fun u => (w_X10_part Y h_t B_t B_t_classes B_t_current B_t_draft B_t_twisting t_toldCount t_classes_n_45 u t_classes_numbers t_current_n t_current_cells t_draft_n t_draft_cells t_twisting_modulus t_twisting_values)) [1, 2] [0, 3, 4, 5, 6, 7, 8, 9] [0, 8, 9, 1, 2, 3, 4, 5, 6, 7] rfl rfl rfl rfl (by decide) (fun _ => rfl) rfl 1 1 rfl rfl rfl rfl hl.1 rfl (Nat.le_of_ble_eq_true rfl) dX10_part_54 (fun r54 u H locs h hP hD hS => ?_)
        obtain ⟨t_classes_leader_54, rfl⟩ : ∃ z, z = u := ⟨_, rfl⟩
        try dsimp only at h
        have hP : va_P G vwCl (w_X10_part Y h_t B_t B_t_classes B_t_current B_t_draft B_t_twisting t_toldCount t_classes_n_45 t_classes_leader_54 t_classes_numbers t_current_n t_current_cells t_draft_n t_draft_cells t_twisting_modulus t_twisting_values) H := hP
        have hD : va_D A (w_X10_part Y h_t B_t B_t_classes B_t_current B_t_draft B_t_twisting t_toldCount t_classes_n_45 t_classes_leader_54 t_classes_numbers t_current_n t_current_cells t_draft_n t_draft_cells t_twisting_modulus t_twisting_values) := hD
        refine lv_pop hx hb dX10_part_57 rfl ?_
        refine lv_aload_n hx hb dX10_part_58 rfl (lv_at hl 0 rfl) ?_
        refine mc_vV ⟨hx, hb, hml, hown, hts⟩ hK hE hA hP hD hS (c_X10_joinWhatMustBeOne l G Y tF H.size h_t B_t B_t_classes B_t_current t_toldCount t_classes_n_45 t_classes_leader_54 t_current_n t_current_cells h) (cwV 0 hts gX10_part_X10_joinWhatMustBeOne rfl rfl rfl (by decide +kernel) ⟨Nat.le_trans (by decide) hRf, Nat.le_trans (by decide) hRl⟩) (fun u => (w_X10_part Y h_t B_t B_t_classes B_t_current B_t_draft B_t_twisting t_toldCount t_classes_n_45 u t_classes_numbers t_current_n t_current_cells t_draft_n t_draft_cells t_twisting_modulus t_twisting_values)) [0, 1, 2, 4, 5] [3, 6, 7, 8, 9] [5, 6, 7, 0, 8, 9, 1, 2, 3, 4] rfl rfl rfl rfl (by decide) (fun _ => rfl) rfl 0 9 rfl rfl rfl rfl hl.1 rfl (Nat.le_of_ble_eq_true rfl) dX10_part_59 (fun u H locs h hP hD hS => ?_)
        obtain ⟨t_classes_leader_59, rfl⟩ : ∃ z, z = u := ⟨_, rfl⟩
        try dsimp only at h
        have hP : va_P G vwCl (w_X10_part Y h_t B_t B_t_classes B_t_current B_t_draft B_t_twisting t_toldCount t_classes_n_45 t_classes_leader_59 t_classes_numbers t_current_n t_current_cells t_draft_n t_draft_cells t_twisting_modulus t_twisting_values) H := hP
        have hD : va_D A (w_X10_part Y h_t B_t B_t_classes B_t_current B_t_draft B_t_twisting t_toldCount t_classes_n_45 t_classes_leader_59 t_classes_numbers t_current_n t_current_cells t_draft_n t_draft_cells t_twisting_modulus t_twisting_values) := hD
        refine lv_aload_n hx hb dX10_part_62 rfl (lv_at hl 0 rfl) ?_
        refine va_get (D := G) (ci := 9) (v := .ref (B_t 1)) (C := RX10) (T := TX10) (N := 15) hx hb hts inX10 hown hK hP 0 rfl rfl 1 (by decide) hf18 (fun _ h9 => h9) rfl dX10_part_63 ?_
        refine lv_aload_n hx hb dX10_part_66 rfl (lv_at hl 0 rfl) ?_
        refine va_get (D := G) (ci := 9) (v := .ref (B_t 6)) (C := RX10) (T := TX10) (N := 15) hx hb hts inX10 hown hK hP 0 rfl rfl 6 (by decide) hf45 (fun _ h9 => h9) rfl dX10_part_67 ?_
        refine mc_iV ⟨hx, hb, hml, hown, hts⟩ hK hE hA hP hD hS (c_X1_number l G Y tF H.size (B_t 6) B_t_classes t_classes_n_45 t_classes_leader_59 t_classes_numbers h) (cwV 0 hts gX10_part_X1_number rfl rfl rfl (by decide +kernel) ⟨Nat.le_trans (by decide) hRf, Nat.le_trans (by decide) hRl⟩) (fun u => (w_X10_part Y h_t B_t B_t_classes B_t_current B_t_draft B_t_twisting t_toldCount t_classes_n_45 t_classes_leader_59 u t_current_n t_current_cells t_draft_n t_draft_cells t_twisting_modulus t_twisting_values)) [1, 2, 3] [0, 4, 5, 6, 7, 8, 9] [0, 7, 8, 9, 1, 2, 3, 4, 5, 6] rfl rfl rfl rfl (by decide) (fun _ => rfl) rfl 1 1 rfl rfl rfl rfl hl.1 rfl (Nat.le_of_ble_eq_true rfl) dX10_part_70 (fun r70 u H locs h hP hD hS => ?_)
        obtain ⟨t_classes_numbers_70, rfl⟩ : ∃ z, z = u := ⟨_, rfl⟩
        try dsimp only at h
        have hP : va_P G vwCl (w_X10_part Y h_t B_t B_t_classes B_t_current B_t_draft B_t_twisting t_toldCount t_classes_n_45 t_classes_leader_59 t_classes_numbers_70 t_current_n t_current_cells t_draft_n t_draft_cells t_twisting_modulus t_twisting_values) H := hP
        have hD : va_D A (w_X10_part Y h_t B_t B_t_classes B_t_current B_t_draft B_t_twisting t_toldCount t_classes_n_45 t_classes_leader_59 t_classes_numbers_70 t_current_n t_current_cells t_draft_n t_draft_cells t_twisting_modulus t_twisting_values) := hD
        refine va_putN (D := G) (ci := 6) (v := .int r70) (ty := .int) (C := RX7) (T := TX7) (N := 2) hx hb hts inX7 tyX7 tyX7_ok nmX7 hown hK hP hD hS 6 rfl rfl 1 (by decide) (hE.nest args 0 _ rfl) (fun _ h9 => h9) rfl (by decide +kernel) rfl rfl (Nat.le_of_ble_eq_true rfl) dX10_part_73 (fun H locs hP hD hS => ?_)
        have hP : va_P G vwCl (w_X10_part Y h_t B_t B_t_classes B_t_current B_t_draft B_t_twisting t_toldCount t_classes_n_45 t_classes_leader_59 t_classes_numbers_70 t_current_n t_current_cells r70 t_draft_cells t_twisting_modulus t_twisting_values) H := hP
        have hD : va_D A (w_X10_part Y h_t B_t B_t_classes B_t_current B_t_draft B_t_twisting t_toldCount t_classes_n_45 t_classes_leader_59 t_classes_numbers_70 t_current_n t_current_cells r70 t_draft_cells t_twisting_modulus t_twisting_values) := hD
        refine lv_iconst (v := 0) hx hb dX10_part_76 (by decide) ?_
        refine lv_istore_n (lv' := [(3, .int (0 : Int32)), (0, .ref h_t), (1, .int x1), (2, .int x2)]) hx hb dX10_part_77 rfl hl (by decide) rfl (fun ls hl => ?_)
        obtain ⟨I78, m78, hI78, hB78⟩ := h
        have L78 : ∀ (t_classes_n : Int32) (t_classes_leader : Nat → Int32) (t_classes_numbers : Nat → Int32) (t_current_n : Int32) (t_current_cells : Nat → Int32) (t_draft_n : Int32) (t_twisting_values : Nat → Int32) (I78 : Int32 → (Nat → Int32) → Prop) (m78 : Int32 → (Nat → Int32) → Nat), (∀ (x3 : Int32) (t_draft_cells : Nat → Int32), I78 x3 t_draft_cells → pX10_part_78 K t_classes_n t_classes_leader t_classes_numbers t_current_n t_current_cells t_draft_n t_twisting_values x3 t_draft_cells (fun x3' t_draft_cells' => I78 x3' t_draft_cells' ∧ m78 x3' t_draft_cells' < m78 x3 t_draft_cells)) → ∀ (n : Nat) (x3 : Int32) (t_draft_cells : Nat → Int32) (H : Heap) (locs : List Loc) (ls : Array Slot), I78 x3 t_draft_cells → m78 x3 t_draft_cells < n → va_P G vwCl (w_X10_part Y h_t B_t B_t_classes B_t_current B_t_draft B_t_twisting t_toldCount t_classes_n t_classes_leader t_classes_numbers t_current_n t_current_cells t_draft_n t_draft_cells t_twisting_modulus t_twisting_values) H → va_D A (w_X10_part Y h_t B_t B_t_classes B_t_current B_t_draft B_t_twisting t_toldCount t_classes_n t_classes_leader t_classes_numbers t_current_n t_current_cells t_draft_n t_draft_cells t_twisting_modulus t_twisting_values) → va_S A s.heap H locs → lv_has ls 5 [(0, .ref h_t), (3, .int x3)] → W p l e R s m args below meth c H locs 0 0 Q (F0 m 78 ls []) := by
          intro t_classes_n t_classes_leader t_classes_numbers t_current_n t_current_cells t_draft_n t_twisting_values I78 m78 hB78 n
          induction n with
          | zero => intro x3 t_draft_cells H locs ls _ hm; exact absurd hm (Nat.not_lt_zero _)
          | succ n ih =>
            intro x3 t_draft_cells H locs ls hI hm hP hD hS hl
            obtain ⟨R78, h, rec78⟩ : ∃ R78 : Int32 → (Nat → Int32) → Prop, pX10_part_78 K t_classes_n t_classes_leader t_classes_numbers t_current_n t_current_cells t_draft_n t_twisting_values x3 t_draft_cells R78 ∧ ∀ (x3 : Int32) (t_draft_cells : Nat → Int32) (H : Heap) (locs : List Loc) (ls : Array Slot), R78 x3 t_draft_cells → va_P G vwCl (w_X10_part Y h_t B_t B_t_classes B_t_current B_t_draft B_t_twisting t_toldCount t_classes_n t_classes_leader t_classes_numbers t_current_n t_current_cells t_draft_n t_draft_cells t_twisting_modulus t_twisting_values) H → va_D A (w_X10_part Y h_t B_t B_t_classes B_t_current B_t_draft B_t_twisting t_toldCount t_classes_n t_classes_leader t_classes_numbers t_current_n t_current_cells t_draft_n t_draft_cells t_twisting_modulus t_twisting_values) → va_S A s.heap H locs → lv_has ls 5 [(0, .ref h_t), (3, .int x3)] → W p l e R s m args below meth c H locs 0 0 Q (F0 m 78 ls []) := ⟨_, hB78 x3 t_draft_cells hI, fun x3 t_draft_cells H locs ls hh hP hD hS hl => ih x3 t_draft_cells H locs ls hh.1 (Nat.lt_of_lt_of_le hh.2 (Nat.le_of_lt_succ hm)) hP hD hS hl⟩
            refine lv_iload_n hx hb dX10_part_78 rfl (lv_at hl 1 rfl) ?_
            refine lv_aload_n hx hb dX10_part_79 rfl (lv_at hl 0 rfl) ?_
            refine va_get (D := G) (ci := 9) (v := .ref (B_t 0)) (C := RX10) (T := TX10) (N := 15) hx hb hts inX10 hown hK hP 0 rfl rfl 0 (by decide) hf14 (fun _ h9 => h9) rfl dX10_part_80 ?_
            refine va_getN (D := G) (ci := 6) (v := .int t_current_n) (C := RX7) (T := TX7) (N := 2) hx hb hts inX7 hown hK hP 4 rfl rfl 1 (by decide) (hE.nest args 0 _ rfl) (fun _ h9 => h9) rfl dX10_part_83 ?_
            obtain ⟨ht, hf⟩ := h
            refine lv_icmp_ge (tgt := 157) hx hb dX10_part_86 (by decide) (fun c9 => ?_) (fun c9 => ?_)
            · have h := ht c9
              refine lv_aload_n hx hb dX10_part_157 rfl (lv_at hl 0 rfl) ?_
              refine mc_iV ⟨hx, hb, hml, hown, hts⟩ hK hE hA hP hD hS (c_X10_adoptDraft l G Y tF H.size h_t B_t B_t_current B_t_draft B_t_twisting t_toldCount t_current_n t_current_cells t_draft_n t_draft_cells t_twisting_modulus t_twisting_values h) (cwV 0 hts gX10_part_X10_adoptDraft rfl rfl rfl (by decide +kernel) ⟨Nat.le_trans (by decide) hRf, Nat.le_trans (by decide) hRl⟩) (fun u => (w_X10_part Y h_t B_t B_t_classes B_t_current B_t_draft B_t_twisting t_toldCount t_classes_n t_classes_leader t_classes_numbers u.1 u.2.1 t_draft_n t_draft_cells t_twisting_modulus u.2.2)) [0, 4, 5, 6, 7, 8, 9] [1, 2, 3] [3, 0, 1, 2, 4, 5, 6, 7, 8, 9] rfl rfl rfl rfl (by decide) (fun _ => rfl) rfl 0 9 rfl rfl rfl rfl hl.1 rfl (Nat.le_of_ble_eq_true rfl) dX10_part_158 (fun r158 u H locs h hP hD hS => ?_)
              obtain ⟨t_current_n_158, t_current_cells_158, t_twisting_values_158⟩ := u
              try dsimp only at h
              have hP : va_P G vwCl (w_X10_part Y h_t B_t B_t_classes B_t_current B_t_draft B_t_twisting t_toldCount t_classes_n t_classes_leader t_classes_numbers t_current_n_158 t_current_cells_158 t_draft_n t_draft_cells t_twisting_modulus t_twisting_values_158) H := hP
              have hD : va_D A (w_X10_part Y h_t B_t B_t_classes B_t_current B_t_draft B_t_twisting t_toldCount t_classes_n t_classes_leader t_classes_numbers t_current_n_158 t_current_cells_158 t_draft_n t_draft_cells t_twisting_modulus t_twisting_values_158) := hD
              exact hret r158 t_classes_n t_classes_leader t_classes_numbers t_current_n_158 t_current_cells_158 t_draft_n t_draft_cells t_twisting_values_158 H locs ls _ hP hD hS h dX10_part_161
            · have h := hf c9
              refine lv_iconst (v := 0) hx hb dX10_part_89 (by decide) ?_
              refine lv_istore (lv' := [(4, .int (0 : Int32)), (0, .ref h_t), (3, .int x3)]) hx hb dX10_part_90 hl (by decide) rfl (fun ls hl => ?_)
              obtain ⟨I92, m92, hI92, hB92⟩ := h
              have L92 : ∀ (x3 : Int32) (I92 : Int32 → (Nat → Int32) → Prop) (m92 : Int32 → (Nat → Int32) → Nat), (∀ (x4 : Int32) (t_draft_cells : Nat → Int32), I92 x4 t_draft_cells → pX10_part_92 R78 K t_classes_n t_classes_leader t_classes_numbers t_current_n t_current_cells t_draft_n t_twisting_values x3 x4 t_draft_cells (fun x4' t_draft_cells' => I92 x4' t_draft_cells' ∧ m92 x4' t_draft_cells' < m92 x4 t_draft_cells)) → ∀ (n : Nat) (x4 : Int32) (t_draft_cells : Nat → Int32) (H : Heap) (locs : List Loc) (ls : Array Slot), I92 x4 t_draft_cells → m92 x4 t_draft_cells < n → va_P G vwCl (w_X10_part Y h_t B_t B_t_classes B_t_current B_t_draft B_t_twisting t_toldCount t_classes_n t_classes_leader t_classes_numbers t_current_n t_current_cells t_draft_n t_draft_cells t_twisting_modulus t_twisting_values) H → va_D A (w_X10_part Y h_t B_t B_t_classes B_t_current B_t_draft B_t_twisting t_toldCount t_classes_n t_classes_leader t_classes_numbers t_current_n t_current_cells t_draft_n t_draft_cells t_twisting_modulus t_twisting_values) → va_S A s.heap H locs → lv_has ls 5 [(0, .ref h_t), (3, .int x3), (4, .int x4)] → W p l e R s m args below meth c H locs 0 0 Q (F0 m 92 ls []) := by
                intro x3 I92 m92 hB92 n
                induction n with
                | zero => intro x4 t_draft_cells H locs ls _ hm; exact absurd hm (Nat.not_lt_zero _)
                | succ n ih =>
                  intro x4 t_draft_cells H locs ls hI hm hP hD hS hl
                  obtain ⟨R92, h, rec92⟩ : ∃ R92 : Int32 → (Nat → Int32) → Prop, pX10_part_92 R78 K t_classes_n t_classes_leader t_classes_numbers t_current_n t_current_cells t_draft_n t_twisting_values x3 x4 t_draft_cells R92 ∧ ∀ (x4 : Int32) (t_draft_cells : Nat → Int32) (H : Heap) (locs : List Loc) (ls : Array Slot), R92 x4 t_draft_cells → va_P G vwCl (w_X10_part Y h_t B_t B_t_classes B_t_current B_t_draft B_t_twisting t_toldCount t_classes_n t_classes_leader t_classes_numbers t_current_n t_current_cells t_draft_n t_draft_cells t_twisting_modulus t_twisting_values) H → va_D A (w_X10_part Y h_t B_t B_t_classes B_t_current B_t_draft B_t_twisting t_toldCount t_classes_n t_classes_leader t_classes_numbers t_current_n t_current_cells t_draft_n t_draft_cells t_twisting_modulus t_twisting_values) → va_S A s.heap H locs → lv_has ls 5 [(0, .ref h_t), (3, .int x3), (4, .int x4)] → W p l e R s m args below meth c H locs 0 0 Q (F0 m 92 ls []) := ⟨_, hB92 x4 t_draft_cells hI, fun x4 t_draft_cells H locs ls hh hP hD hS hl => ih x4 t_draft_cells H locs ls hh.1 (Nat.lt_of_lt_of_le hh.2 (Nat.le_of_lt_succ hm)) hP hD hS hl⟩
                  refine lv_iload hx hb dX10_part_92 (lv_at hl 2 rfl) ?_
                  refine lv_aload_n hx hb dX10_part_94 rfl (lv_at hl 0 rfl) ?_
                  refine va_get (D := G) (ci := 9) (v := .ref (B_t 0)) (C := RX10) (T := TX10) (N := 15) hx hb hts inX10 hown hK hP 0 rfl rfl 0 (by decide) hf14 (fun _ h9 => h9) rfl dX10_part_95 ?_
                  refine va_getN (D := G) (ci := 6) (v := .int t_current_n) (C := RX7) (T := TX7) (N := 2) hx hb hts inX7 hown hK hP 4 rfl rfl 1 (by decide) (hE.nest args 0 _ rfl) (fun _ h9 => h9) rfl dX10_part_98 ?_
                  obtain ⟨ht, hf⟩ := h
                  refine lv_icmp_ge (tgt := 151) hx hb dX10_part_101 (by decide) (fun c9 => ?_) (fun c9 => ?_)
                  · have h := ht c9
                    refine lv_iinc (v := (x3 + 1)) (lv' := [(3, .int (x3 + 1)), (0, .ref h_t), (4, .int x4)]) hx hb dX10_part_151 hl (k := 1) rfl rfl (by decide) rfl (fun ls hl => ?_)
                    refine lv_goto (tgt := 78) hx hb dX10_part_154 (by decide) ?_
                    exact rec78 (x3 + 1) t_draft_cells H locs ls h hP hD hS (lv_sub hl [1, 0] rfl)
                  · have h := hf c9
                    refine lv_aload_n hx hb dX10_part_104 rfl (lv_at hl 0 rfl) ?_
                    refine va_get (D := G) (ci := 9) (v := .ref (B_t 1)) (C := RX10) (T := TX10) (N := 15) hx hb hts inX10 hown hK hP 0 rfl rfl 1 (by decide) hf18 (fun _ h9 => h9) rfl dX10_part_105 ?_
                    refine lv_aload_n hx hb dX10_part_108 rfl (lv_at hl 0 rfl) ?_
                    refine va_get (D := G) (ci := 9) (v := .ref (B_t 6)) (C := RX10) (T := TX10) (N := 15) hx hb hts inX10 hown hK hP 0 rfl rfl 6 (by decide) hf45 (fun _ h9 => h9) rfl dX10_part_109 ?_
                    refine lv_iload_n hx hb dX10_part_112 rfl (lv_at hl 1 rfl) ?_
                    refine mc_iV ⟨hx, hb, hml, hown, hts⟩ hK hE hA hP hD hS (c_X1_numberOf l G Y tF H.size (B_t 6) B_t_classes t_classes_n t_classes_numbers x3 h) (cwV 1 hts gX10_part_X1_numberOf rfl rfl rfl (by decide +kernel) ⟨Nat.le_trans (by decide) hRf, Nat.le_trans (by decide) hRl⟩) (fun u => (w_X10_part Y h_t B_t B_t_classes B_t_current B_t_draft B_t_twisting t_toldCount t_classes_n t_classes_leader t_classes_numbers t_current_n t_current_cells t_draft_n t_draft_cells t_twisting_modulus t_twisting_values)) [1, 3] [0, 2, 4, 5, 6, 7, 8, 9] [0, 8, 1, 9, 2, 3, 4, 5, 6, 7] rfl rfl rfl rfl (by decide) (fun _ => rfl) rfl 1 1 rfl rfl rfl rfl hl.1 rfl (Nat.le_of_ble_eq_true rfl) dX10_part_113 (fun r113 u H locs h hP hD hS => ?_)
                    try dsimp only at h
                    have hP : va_P G vwCl (w_X10_part Y h_t B_t B_t_classes B_t_current B_t_draft B_t_twisting t_toldCount t_classes_n t_classes_leader t_classes_numbers t_current_n t_current_cells t_draft_n t_draft_cells t_twisting_modulus t_twisting_values) H := hP
                    have hD : va_D A (w_X10_part Y h_t B_t B_t_classes B_t_current B_t_draft B_t_twisting t_toldCount t_classes_n t_classes_leader t_classes_numbers t_current_n t_current_cells t_draft_n t_draft_cells t_twisting_modulus t_twisting_values) := hD
                    refine lv_aload_n hx hb dX10_part_116 rfl (lv_at hl 0 rfl) ?_
                    refine va_get (D := G) (ci := 9) (v := .ref (B_t 6)) (C := RX10) (T := TX10) (N := 15) hx hb hts inX10 hown hK hP 0 rfl rfl 6 (by decide) hf45 (fun _ h9 => h9) rfl dX10_part_117 ?_
                    refine lv_iload hx hb dX10_part_120 (lv_at hl 2 rfl) ?_
                    refine mc_iV ⟨hx, hb, hml, hown, hts⟩ hK hE hA hP hD hS (c_X1_numberOf l G Y tF H.size (B_t 6) B_t_classes t_classes_n t_classes_numbers x4 h) (cwV 1 hts gX10_part_X1_numberOf rfl rfl rfl (by decide +kernel) ⟨Nat.le_trans (by decide) hRf, Nat.le_trans (by decide) hRl⟩) (fun u => (w_X10_part Y h_t B_t B_t_classes B_t_current B_t_draft B_t_twisting t_toldCount t_classes_n t_classes_leader t_classes_numbers t_current_n t_current_cells t_draft_n t_draft_cells t_twisting_modulus t_twisting_values)) [1, 3] [0, 2, 4, 5, 6, 7, 8, 9] [0, 8, 1, 9, 2, 3, 4, 5, 6, 7] rfl rfl rfl rfl (by decide) (fun _ => rfl) rfl 1 1 rfl rfl rfl rfl hl.1 rfl (Nat.le_of_ble_eq_true rfl) dX10_part_122 (fun r122 u H locs h hP hD hS => ?_)
                    try dsimp only at h
                    have hP : va_P G vwCl (w_X10_part Y h_t B_t B_t_classes B_t_current B_t_draft B_t_twisting t_toldCount t_classes_n t_classes_leader t_classes_numbers t_current_n t_current_cells t_draft_n t_draft_cells t_twisting_modulus t_twisting_values) H := hP
                    have hD : va_D A (w_X10_part Y h_t B_t B_t_classes B_t_current B_t_draft B_t_twisting t_toldCount t_classes_n t_classes_leader t_classes_numbers t_current_n t_current_cells t_draft_n t_draft_cells t_twisting_modulus t_twisting_values) := hD
                    refine lv_aload_n hx hb dX10_part_125 rfl (lv_at hl 0 rfl) ?_
                    refine va_get (D := G) (ci := 9) (v := .ref (B_t 6)) (C := RX10) (T := TX10) (N := 15) hx hb hts inX10 hown hK hP 0 rfl rfl 6 (by decide) hf45 (fun _ h9 => h9) rfl dX10_part_126 ?_
                    refine lv_aload_n hx hb dX10_part_129 rfl (lv_at hl 0 rfl) ?_
                    refine va_get (D := G) (ci := 9) (v := .ref (B_t 0)) (C := RX10) (T := TX10) (N := 15) hx hb hts inX10 hown hK hP 0 rfl rfl 0 (by decide) hf14 (fun _ h9 => h9) rfl dX10_part_130 ?_
                    refine lv_iload_n hx hb dX10_part_133 rfl (lv_at hl 1 rfl) ?_
                    refine lv_iload hx hb dX10_part_134 (lv_at hl 2 rfl) ?_
                    refine mc_iV ⟨hx, hb, hml, hown, hts⟩ hK hE hA hP hD hS (c_X7_turned l G Y tF H.size (B_t 0) B_t_current t_current_n t_current_cells x3 x4 h) (cwV 2 hts gX10_part_X7_turned rfl rfl rfl (by decide +kernel) ⟨Nat.le_trans (by decide) hRf, Nat.le_trans (by decide) hRl⟩) (fun u => (w_X10_part Y h_t B_t B_t_classes B_t_current B_t_draft B_t_twisting t_toldCount t_classes_n t_classes_leader t_classes_numbers t_current_n t_current_cells t_draft_n t_draft_cells t_twisting_modulus t_twisting_values)) [4, 5] [0, 1, 2, 3, 6, 7, 8, 9] [0, 1, 2, 3, 8, 9, 4, 5, 6, 7] rfl rfl rfl rfl (by decide) (fun _ => rfl) rfl 4 6 rfl rfl rfl rfl hl.1 rfl (Nat.le_of_ble_eq_true rfl) dX10_part_136 (fun r136 u H locs h hP hD hS => ?_)
                    try dsimp only at h
                    have hP : va_P G vwCl (w_X10_part Y h_t B_t B_t_classes B_t_current B_t_draft B_t_twisting t_toldCount t_classes_n t_classes_leader t_classes_numbers t_current_n t_current_cells t_draft_n t_draft_cells t_twisting_modulus t_twisting_values) H := hP
                    have hD : va_D A (w_X10_part Y h_t B_t B_t_classes B_t_current B_t_draft B_t_twisting t_toldCount t_classes_n t_classes_leader t_classes_numbers t_current_n t_current_cells t_draft_n t_draft_cells t_twisting_modulus t_twisting_values) := hD
                    refine mc_iV ⟨hx, hb, hml, hown, hts⟩ hK hE hA hP hD hS (c_X1_numberOf l G Y tF H.size (B_t 6) B_t_classes t_classes_n t_classes_numbers r136 h) (cwV 1 hts gX10_part_X1_numberOf rfl rfl rfl (by decide +kernel) ⟨Nat.le_trans (by decide) hRf, Nat.le_trans (by decide) hRl⟩) (fun u => (w_X10_part Y h_t B_t B_t_classes B_t_current B_t_draft B_t_twisting t_toldCount t_classes_n t_classes_leader t_classes_numbers t_current_n t_current_cells t_draft_n t_draft_cells t_twisting_modulus t_twisting_values)) [1, 3] [0, 2, 4, 5, 6, 7, 8, 9] [0, 8, 1, 9, 2, 3, 4, 5, 6, 7] rfl rfl rfl rfl (by decide) (fun _ => rfl) rfl 1 1 rfl rfl rfl rfl hl.1 rfl (Nat.le_of_ble_eq_true rfl) dX10_part_139 (fun r139 u H locs h hP hD hS => ?_)
                    try dsimp only at h
                    have hP : va_P G vwCl (w_X10_part Y h_t B_t B_t_classes B_t_current B_t_draft B_t_twisting t_toldCount t_classes_n t_classes_leader t_classes_numbers t_current_n t_current_cells t_draft_n t_draft_cells t_twisting_modulus t_twisting_values) H := hP
                    have hD : va_D A (w_X10_part Y h_t B_t B_t_classes B_t_current B_t_draft B_t_twisting t_toldCount t_classes_n t_classes_leader t_classes_numbers t_current_n t_current_cells t_draft_n t_draft_cells t_twisting_modulus t_twisting_values) := hD
                    refine mc_vV ⟨hx, hb, hml, hown, hts⟩ hK hE hA hP hD hS (c_X7_put l G Y tF H.size (B_t 1) B_t_draft t_draft_n t_draft_cells r113 r122 r139 h) (cwV 3 hts gX10_part_X7_put rfl rfl rfl (by decide +kernel) ⟨Nat.le_trans (by decide) hRf, Nat.le_trans (by decide) hRl⟩) (fun u => (w_X10_part Y h_t B_t B_t_classes B_t_current B_t_draft B_t_twisting t_toldCount t_classes_n t_classes_leader t_classes_numbers t_current_n t_current_cells t_draft_n u t_twisting_modulus t_twisting_values)) [6, 7] [0, 1, 2, 3, 4, 5, 8, 9] [0, 1, 2, 3, 4, 5, 8, 9, 6, 7] rfl rfl rfl rfl (by decide) (fun _ => rfl) rfl 6 6 rfl rfl rfl rfl hl.1 rfl (Nat.le_of_ble_eq_true rfl) dX10_part_142 (fun u H locs h hP hD hS => ?_)
                    obtain ⟨t_draft_cells_142, rfl⟩ : ∃ z, z = u := ⟨_, rfl⟩
                    try dsimp only at h
                    have hP : va_P G vwCl (w_X10_part Y h_t B_t B_t_classes B_t_current B_t_draft B_t_twisting t_toldCount t_classes_n t_classes_leader t_classes_numbers t_current_n t_current_cells t_draft_n t_draft_cells_142 t_twisting_modulus t_twisting_values) H := hP
                    have hD : va_D A (w_X10_part Y h_t B_t B_t_classes B_t_current B_t_draft B_t_twisting t_toldCount t_classes_n t_classes_leader t_classes_numbers t_current_n t_current_cells t_draft_n t_draft_cells_142 t_twisting_modulus t_twisting_values) := hD
                    refine lv_iinc (v := (x4 + 1)) (lv' := [(4, .int (x4 + 1)), (0, .ref h_t), (3, .int x3)]) hx hb dX10_part_145 hl (k := 2) rfl rfl (by decide) rfl (fun ls hl => ?_)
                    refine lv_goto (tgt := 92) hx hb dX10_part_148 (by decide) ?_
                    exact rec92 (x4 + 1) t_draft_cells_142 H locs ls h hP hD hS (lv_sub hl [1, 2, 0] rfl)
              exact L92 x3 I92 m92 hB92 _ (0 : Int32) t_draft_cells H locs ls hI92 (Nat.lt_succ_self _) hP hD hS (lv_sub hl [1, 2, 0] rfl)
        exact L78 t_classes_n_45 t_classes_leader_59 t_classes_numbers_70 t_current_n t_current_cells r70 t_twisting_values I78 m78 hB78 _ (0 : Int32) t_draft_cells H locs ls hI78 (Nat.lt_succ_self _) hP hD hS (lv_sub hl [1, 0] rfl)
      · have h := hf c9
        refine lv_iconst (v := -1) hx hb dX10_part_32 (by decide) ?_
        exact hret (-1 : Int32) t_classes_n t_classes_leader t_classes_numbers t_current_n t_current_cells t_draft_n t_draft_cells t_twisting_values H locs ls _ hP hD hS h dX10_part_33

set_option maxHeartbeats 4000000 in
set_option maxRecDepth 100000 in
theorem c_X10_part (l : Launch) (G : va_G) (Y : Nat → ClassId) (tF sz : Nat) (h_t : Nat) (B_t : Nat → Nat) (B_t_classes : Nat → Nat) (B_t_current : Nat → Nat) (B_t_draft : Nat → Nat) (B_t_twisting : Nat → Nat) (t_toldCount : Int32) (t_classes_n : Int32) (t_classes_leader : Nat → Int32) (t_classes_numbers : Nat → Int32) (t_current_n : Int32) (t_current_cells : Nat → Int32) (t_draft_n : Int32) (t_draft_cells : Nat → Int32) (t_twisting_modulus : Int32) (t_twisting_values : Nat → Int32) (x1 : Int32) (x2 : Int32) {K : Int32 → Int32 → (Nat → Int32) → (Nat → Int32) → Int32 → (Nat → Int32) → Int32 → (Nat → Int32) → (Nat → Int32) → Prop} (h : pX10_part t_classes_n t_classes_leader t_classes_numbers t_current_n t_current_cells t_draft_n t_draft_cells t_twisting_values x1 x2 K) : Met l yX10_part wsX10_part ({ frames := 4, cells := 0, slots := 0, locals := 105 }) (PcM G Y tF sz (w_X10_part Y h_t B_t B_t_classes B_t_current B_t_draft B_t_twisting t_toldCount t_classes_n t_classes_leader t_classes_numbers t_current_n t_current_cells t_draft_n t_draft_cells t_twisting_modulus t_twisting_values) [.ref h_t, .int x1, .int x2]) (va_Qi (fun (r : Int32) (u : Int32 × (Nat → Int32) × (Nat → Int32) × Int32 × (Nat → Int32) × Int32 × (Nat → Int32) × (Nat → Int32)) => K r u.1 u.2.1 u.2.2.1 u.2.2.2.1 u.2.2.2.2.1 u.2.2.2.2.2.1 u.2.2.2.2.2.2.1 u.2.2.2.2.2.2.2) (fun u t => BM G Y (va_A (w_X10_part Y h_t B_t B_t_classes B_t_current B_t_draft B_t_twisting t_toldCount t_classes_n t_classes_leader t_classes_numbers t_current_n t_current_cells t_draft_n t_draft_cells t_twisting_modulus t_twisting_values) sz) (w_X10_part Y h_t B_t B_t_classes B_t_current B_t_draft B_t_twisting t_toldCount u.1 u.2.1 u.2.2.1 u.2.2.2.1 u.2.2.2.2.1 u.2.2.2.2.2.1 u.2.2.2.2.2.2.1 t_twisting_modulus u.2.2.2.2.2.2.2) t) (va_A (w_X10_part Y h_t B_t B_t_classes B_t_current B_t_draft B_t_twisting t_toldCount t_classes_n t_classes_leader t_classes_numbers t_current_n t_current_cells t_draft_n t_draft_cells t_twisting_modulus t_twisting_values) sz)) 0 0 (va_A (w_X10_part Y h_t B_t B_t_classes B_t_current B_t_draft B_t_twisting t_toldCount t_classes_n t_classes_leader t_classes_numbers t_current_n t_current_cells t_draft_n t_draft_cells t_twisting_modulus t_twisting_values) sz) := by
  refine Met.ofW (cc := cX10_part) (maxL := 5) (ret := (some .int)) (by decide +kernel) rfl ?_
  intro p e s m args below meth c s₁ B hml hv
  obtain ⟨rfl, hsz, hP, hK, hD0, hE⟩ := hv
  have hts := atoms_spec (ws := wsX10_part) B.pre
  have hown : s.vm.findClass RX10 = some m.cls := findClass_of_methodNamed B.named
  have hlocks := B.notSynchronized
  subst hsz
  have hD := hD0.self (sz := s.heap.size)
  exact wk_X10_part h_t B_t B_t_classes B_t_current B_t_draft B_t_twisting t_toldCount t_classes_n t_classes_leader t_classes_numbers t_current_n t_current_cells t_draft_n t_draft_cells t_twisting_modulus t_twisting_values x1 x2 B.exec B.bytes hml hown hts hK hE (fun q h => Or.inr h) (Nat.le_refl _) (Nat.le_refl _) (fun r t_classes_n t_classes_leader t_classes_numbers t_current_n t_current_cells t_draft_n t_draft_cells t_twisting_values H locs ls pc hP hD hS hk hd => W.iret (v := r) B.exec B.bytes B.returns (fun t ht hW => ⟨⟨r, (t_classes_n, t_classes_leader, t_classes_numbers, t_current_n, t_current_cells, t_draft_n, t_draft_cells, t_twisting_values), rfl, hk, by rw [ht]; exact hP, va_K.moved hW.alike hK, hD⟩, hS.F ht⟩) hS.2.2 hd) hP hD h

abbrev w_X10_closedSet (Y : Nat → ClassId) (h_t : Nat) (B_t : Nat → Nat) (B_t_current : Nat → Nat) (t_toldCount : Int32) (t_current_n : Int32) (t_current_cells : Nat → Int32) : va_W := [(h_t, .inr (9, [.ref (B_t 0), .ref (B_t 1), .ref (B_t 2), .ref (B_t 3), .ref (B_t 4), .ref (B_t 5), .ref (B_t 6), .ref (B_t 7), .ref (B_t 8), .ref (B_t 9), .ref (B_t 10), .ref (B_t 11), .ref (B_t 12), .ref (B_t 13), .int t_toldCount])), ((B_t 0), .inr (6, [.ref (B_t_current 0), .int t_current_n])), ((B_t_current 0), .inl (Y 0, 64, .inl t_current_cells))]

set_option maxHeartbeats 4000000 in
set_option maxRecDepth 100000 in
theorem wk_X10_closedSet {p : Program} {l : Launch} {e : Env} {R : Room} {s : State} {m : MethodId} {args : Array Value} {below : List Frame} {meth : Method} {c : Code} {Q : State → Prop} {G : va_G} {Y : Nat → ClassId} {tF : Nat} {A : Nat → Prop} (h_t : Nat) (B_t : Nat → Nat) (B_t_current : Nat → Nat) (t_toldCount : Int32) (t_current_n : Int32) (t_current_cells : Nat → Int32) (x1 : Int32) {K : Int32 → Prop} (hx : p.tables.exec = Jvm.exec) (hb : c.code = cX10_closedSet) (hml : c.maxLocals = 7) (hown : s.vm.findClass RX10 = some m.cls) (hts : ∀ w ∈ wsX10_closedSet, w.before args s = true) (hK : va_K G vwCl (tyL Y) s) (hE : Ev A tF s) (hA : ∀ q, s.heap.size ≤ q → A q) (hRf : 1 ≤ R.frames) (hRl : 22 ≤ R.locals) (hret : ∀ (r : Int32)  (H : Heap) (locs : List Loc) (ls : Array Slot) (pc : Nat), va_P G vwCl (w_X10_closedSet Y h_t B_t B_t_current t_toldCount t_current_n t_current_cells) H → va_D A (w_X10_closedSet Y h_t B_t B_t_current t_toldCount t_current_n t_current_cells) → va_S A s.heap H locs → K r → decode cX10_closedSet pc = .ok (.ireturn, 1) → W p l e R s m args below meth c H locs 0 0 Q (F0 m pc ls [.int r])) (hP : va_P G vwCl (w_X10_closedSet Y h_t B_t B_t_current t_toldCount t_current_n t_current_cells) s.heap) (hD : va_D A (w_X10_closedSet Y h_t B_t B_t_current t_toldCount t_current_n t_current_cells)) (h : pX10_closedSet t_current_n t_current_cells x1 K) : W p l e R s m args below meth c s.heap [] 0 0 Q (entryFrame m ([.ref h_t, .int x1] : List Value).toArray 7) := by
  have inX10 : ∀ w ∈ u_ws RX10 TX10 15, w ∈ wsX10_closedSet := by decide +kernel
  have inX7 : ∀ w ∈ u_ws RX7 TX7 2, w ∈ wsX10_closedSet := by decide +kernel
  have hf14 := hts (.fieldLink RX10 14 "RackBench" "current" "LRackBench$Table;") (by decide +kernel)
  have hl := lv_entry ([.ref h_t, .int x1]) (n := 7) (Nat.le_of_ble_eq_true rfl)
  rw [lg_entry_eq]
  generalize (lg_sl ([.ref h_t, .int x1]) ++ List.replicate (7 - (lg_sl ([.ref h_t, .int x1])).length) Slot.unset).toArray = ls at hl ⊢
  have hl : lv_has ls 7 [(0, .ref h_t), (1, .int x1)] := hl
  generalize hH0 : s.heap = H at hP ⊢
  have hS : va_S A s.heap H [] := by rw [← hH0]; exact va_S.rf
  clear hH0
  generalize ([] : List Loc) = locs at hS ⊢
  refine lv_iload_n hx hb dX10_closedSet_0 rfl (lv_at hl 1 rfl) ?_
  refine lv_istore_n (lv' := [(2, .int x1), (0, .ref h_t), (1, .int x1)]) hx hb dX10_closedSet_1 rfl hl (by decide) rfl (fun ls hl => ?_)
  refine lv_iconst (v := 0) hx hb dX10_closedSet_2 (by decide) ?_
  refine lv_istore_n (lv' := [(3, .int (0 : Int32)), (2, .int x1), (0, .ref h_t), (1, .int x1)]) hx hb dX10_closedSet_3 rfl hl (by decide) rfl (fun ls hl => ?_)
  refine lv_iconst (v := 0) hx hb dX10_closedSet_4 (by decide) ?_
  refine lv_istore (lv' := [(4, .int (0 : Int32)), (3, .int (0 : Int32)), (2, .int x1), (0, .ref h_t), (1, .int x1)]) hx hb dX10_closedSet_5 hl (by decide) rfl (fun ls hl => ?_)
  obtain ⟨I7, m7, hI7, hB7⟩ := h
  have L7 : ∀  (I7 : Int32 → Int32 → Int32 → Prop) (m7 : Int32 → Int32 → Int32 → Nat), (∀ (x2 : Int32) (x3 : Int32) (x4 : Int32), I7 x2 x3 x4 → pX10_closedSet_7 t_current_n t_current_cells K x2 x3 x4 (fun x2' x3' x4' => I7 x2' x3' x4' ∧ m7 x2' x3' x4' < m7 x2 x3 x4)) → ∀ (n : Nat) (x2 : Int32) (x3 : Int32) (x4 : Int32) (H : Heap) (locs : List Loc) (ls : Array Slot), I7 x2 x3 x4 → m7 x2 x3 x4 < n → va_P G vwCl (w_X10_closedSet Y h_t B_t B_t_current t_toldCount t_current_n t_current_cells) H → va_D A (w_X10_closedSet Y h_t B_t B_t_current t_toldCount t_current_n t_current_cells) → va_S A s.heap H locs → lv_has ls 7 [(0, .ref h_t), (2, .int x2), (3, .int x3), (4, .int x4)] → W p l e R s m args below meth c H locs 0 0 Q (F0 m 7 ls []) := by
    intro  I7 m7 hB7 n
    induction n with
    | zero => intro x2 x3 x4 H locs ls _ hm; exact absurd hm (Nat.not_lt_zero _)
    | succ n ih =>
      intro x2 x3 x4 H locs ls hI hm hP hD hS hl
      obtain ⟨R7, h, rec7⟩ : ∃ R7 : Int32 → Int32 → Int32 → Prop, pX10_closedSet_7 t_current_n t_current_cells K x2 x3 x4 R7 ∧ ∀ (x2 : Int32) (x3 : Int32) (x4 : Int32) (H : Heap) (locs : List Loc) (ls : Array Slot), R7 x2 x3 x4 → va_P G vwCl (w_X10_closedSet Y h_t B_t B_t_current t_toldCount t_current_n t_current_cells) H → va_D A (w_X10_closedSet Y h_t B_t B_t_current t_toldCount t_current_n t_current_cells) → va_S A s.heap H locs → lv_has ls 7 [(0, .ref h_t), (2, .int x2), (3, .int x3), (4, .int x4)] → W p l e R s m args below meth c H locs 0 0 Q (F0 m 7 ls []) := ⟨_, hB7 x2 x3 x4 hI, fun x2 x3 x4 H locs ls hh hP hD hS hl => ih x2 x3 x4 H locs ls hh.1 (Nat.lt_of_lt_of_le hh.2 (Nat.le_of_lt_succ hm)) hP hD hS hl⟩
      refine lv_iload hx hb dX10_closedSet_7 (lv_at hl 3 rfl) ?_
      refine lv_aload_n hx hb dX10_closedSet_9 rfl (lv_at hl 0 rfl) ?_
      refine va_get (D := G) (ci := 9) (v := .ref (B_t 0)) (C := RX10) (T := TX10) (N := 15) hx hb hts inX10 hown hK hP 0 rfl rfl 0 (by decide) hf14 (fun _ h9 => h9) rfl dX10_closedSet_10 ?_
      refine va_getN (D := G) (ci := 6) (v := .int t_current_n) (C := RX7) (T := TX7) (N := 2) hx hb hts inX7 hown hK hP 1 rfl rfl 1 (by decide) (hE.nest args 0 _ rfl) (fun _ h9 => h9) rfl dX10_closedSet_13 ?_
      obtain ⟨ht, hf⟩ := h
      refine lv_icmp_ge (tgt := 105) hx hb dX10_closedSet_16 (by decide) (fun c9 => ?_) (fun c9 => ?_)
      · have h := ht c9
        refine lv_iload_n hx hb dX10_closedSet_105 rfl (lv_at hl 1 rfl) ?_
        exact hret x2  H locs ls _ hP hD hS h dX10_closedSet_106
      · have h := hf c9
        refine lv_iload_n hx hb dX10_closedSet_19 rfl (lv_at hl 1 rfl) ?_
        refine lv_iload_n hx hb dX10_closedSet_20 rfl (lv_at hl 2 rfl) ?_
        obtain ⟨ht, hf⟩ := h
        refine lv_icmp_eq (tgt := 105) hx hb dX10_closedSet_21 (by decide) (fun c9 => ?_) (fun c9 => ?_)
        · have h := ht c9
          refine lv_iload_n hx hb dX10_closedSet_105 rfl (lv_at hl 1 rfl) ?_
          exact hret x2  H locs ls _ hP hD hS h dX10_closedSet_106
        · have h := hf c9
          refine lv_iload_n hx hb dX10_closedSet_24 rfl (lv_at hl 1 rfl) ?_
          refine lv_istore_n (lv' := [(3, .int x2), (0, .ref h_t), (2, .int x2), (4, .int x4)]) hx hb dX10_closedSet_25 rfl hl (by decide) rfl (fun ls hl => ?_)
          refine lv_iconst (v := 0) hx hb dX10_closedSet_26 (by decide) ?_
          refine lv_istore (lv' := [(5, .int (0 : Int32)), (3, .int x2), (0, .ref h_t), (2, .int x2), (4, .int x4)]) hx hb dX10_closedSet_27 hl (by decide) rfl (fun ls hl => ?_)
          obtain ⟨I29, m29, hI29, hB29⟩ := h
          have L29 : ∀ (x3 : Int32) (x4 : Int32) (I29 : Int32 → Int32 → Prop) (m29 : Int32 → Int32 → Nat), (∀ (x2 : Int32) (x5 : Int32), I29 x2 x5 → pX10_closedSet_29 t_current_n t_current_cells R7 K x3 x4 x2 x5 (fun x2' x5' => I29 x2' x5' ∧ m29 x2' x5' < m29 x2 x5)) → ∀ (n : Nat) (x2 : Int32) (x5 : Int32) (H : Heap) (locs : List Loc) (ls : Array Slot), I29 x2 x5 → m29 x2 x5 < n → va_P G vwCl (w_X10_closedSet Y h_t B_t B_t_current t_toldCount t_current_n t_current_cells) H → va_D A (w_X10_closedSet Y h_t B_t B_t_current t_toldCount t_current_n t_current_cells) → va_S A s.heap H locs → lv_has ls 7 [(0, .ref h_t), (2, .int x2), (3, .int x3), (4, .int x4), (5, .int x5)] → W p l e R s m args below meth c H locs 0 0 Q (F0 m 29 ls []) := by
            intro x3 x4 I29 m29 hB29 n
            induction n with
            | zero => intro x2 x5 H locs ls _ hm; exact absurd hm (Nat.not_lt_zero _)
            | succ n ih =>
              intro x2 x5 H locs ls hI hm hP hD hS hl
              obtain ⟨R29, h, rec29⟩ : ∃ R29 : Int32 → Int32 → Prop, pX10_closedSet_29 t_current_n t_current_cells R7 K x3 x4 x2 x5 R29 ∧ ∀ (x2 : Int32) (x5 : Int32) (H : Heap) (locs : List Loc) (ls : Array Slot), R29 x2 x5 → va_P G vwCl (w_X10_closedSet Y h_t B_t B_t_current t_toldCount t_current_n t_current_cells) H → va_D A (w_X10_closedSet Y h_t B_t B_t_current t_toldCount t_current_n t_current_cells) → va_S A s.heap H locs → lv_has ls 7 [(0, .ref h_t), (2, .int x2), (3, .int x3), (4, .int x4), (5, .int x5)] → W p l e R s m args below meth c H locs 0 0 Q (F0 m 29 ls []) := ⟨_, hB29 x2 x5 hI, fun x2 x5 H locs ls hh hP hD hS hl => ih x2 x5 H locs ls hh.1 (Nat.lt_of_lt_of_le hh.2 (Nat.le_of_lt_succ hm)) hP hD hS hl⟩
              refine lv_iload hx hb dX10_closedSet_29 (lv_at hl 4 rfl) ?_
              refine lv_aload_n hx hb dX10_closedSet_31 rfl (lv_at hl 0 rfl) ?_
              refine va_get (D := G) (ci := 9) (v := .ref (B_t 0)) (C := RX10) (T := TX10) (N := 15) hx hb hts inX10 hown hK hP 0 rfl rfl 0 (by decide) hf14 (fun _ h9 => h9) rfl dX10_closedSet_32 ?_
              refine va_getN (D := G) (ci := 6) (v := .int t_current_n) (C := RX7) (T := TX7) (N := 2) hx hb hts inX7 hown hK hP 1 rfl rfl 1 (by decide) (hE.nest args 0 _ rfl) (fun _ h9 => h9) rfl dX10_closedSet_35 ?_
              obtain ⟨ht, hf⟩ := h
              refine lv_icmp_ge (tgt := 99) hx hb dX10_closedSet_38 (by decide) (fun c9 => ?_) (fun c9 => ?_)
              · have h := ht c9
                refine lv_iinc (v := (x4 + 1)) (lv' := [(4, .int (x4 + 1)), (0, .ref h_t), (2, .int x2), (3, .int x3), (5, .int x5)]) hx hb dX10_closedSet_99 hl (k := 3) rfl rfl (by decide) rfl (fun ls hl => ?_)
                refine lv_goto (tgt := 7) hx hb dX10_closedSet_102 (by decide) ?_
                exact rec7 x2 x3 (x4 + 1) H locs ls h hP hD hS (lv_sub hl [1, 2, 3, 0] rfl)
              · have h := hf c9
                refine lv_iconst (v := 0) hx hb dX10_closedSet_41 (by decide) ?_
                refine lv_istore (lv' := [(6, .int (0 : Int32)), (0, .ref h_t), (2, .int x2), (3, .int x3), (4, .int x4), (5, .int x5)]) hx hb dX10_closedSet_42 hl (by decide) rfl (fun ls hl => ?_)
                obtain ⟨I44, m44, hI44, hB44⟩ := h
                have L44 : ∀ (x5 : Int32) (I44 : Int32 → Int32 → Prop) (m44 : Int32 → Int32 → Nat), (∀ (x2 : Int32) (x6 : Int32), I44 x2 x6 → pX10_closedSet_44 t_current_n t_current_cells R7 R29 K x3 x4 x5 x2 x6 (fun x2' x6' => I44 x2' x6' ∧ m44 x2' x6' < m44 x2 x6)) → ∀ (n : Nat) (x2 : Int32) (x6 : Int32) (H : Heap) (locs : List Loc) (ls : Array Slot), I44 x2 x6 → m44 x2 x6 < n → va_P G vwCl (w_X10_closedSet Y h_t B_t B_t_current t_toldCount t_current_n t_current_cells) H → va_D A (w_X10_closedSet Y h_t B_t B_t_current t_toldCount t_current_n t_current_cells) → va_S A s.heap H locs → lv_has ls 7 [(0, .ref h_t), (2, .int x2), (3, .int x3), (4, .int x4), (5, .int x5), (6, .int x6)] → W p l e R s m args below meth c H locs 0 0 Q (F0 m 44 ls []) := by
                  intro x5 I44 m44 hB44 n
                  induction n with
                  | zero => intro x2 x6 H locs ls _ hm; exact absurd hm (Nat.not_lt_zero _)
                  | succ n ih =>
                    intro x2 x6 H locs ls hI hm hP hD hS hl
                    obtain ⟨R44, h, rec44⟩ : ∃ R44 : Int32 → Int32 → Prop, pX10_closedSet_44 t_current_n t_current_cells R7 R29 K x3 x4 x5 x2 x6 R44 ∧ ∀ (x2 : Int32) (x6 : Int32) (H : Heap) (locs : List Loc) (ls : Array Slot), R44 x2 x6 → va_P G vwCl (w_X10_closedSet Y h_t B_t B_t_current t_toldCount t_current_n t_current_cells) H → va_D A (w_X10_closedSet Y h_t B_t B_t_current t_toldCount t_current_n t_current_cells) → va_S A s.heap H locs → lv_has ls 7 [(0, .ref h_t), (2, .int x2), (3, .int x3), (4, .int x4), (5, .int x5), (6, .int x6)] → W p l e R s m args below meth c H locs 0 0 Q (F0 m 44 ls []) := ⟨_, hB44 x2 x6 hI, fun x2 x6 H locs ls hh hP hD hS hl => ih x2 x6 H locs ls hh.1 (Nat.lt_of_lt_of_le hh.2 (Nat.le_of_lt_succ hm)) hP hD hS hl⟩
                    refine lv_iload hx hb dX10_closedSet_44 (lv_at hl 5 rfl) ?_
                    refine lv_aload_n hx hb dX10_closedSet_46 rfl (lv_at hl 0 rfl) ?_
                    refine va_get (D := G) (ci := 9) (v := .ref (B_t 0)) (C := RX10) (T := TX10) (N := 15) hx hb hts inX10 hown hK hP 0 rfl rfl 0 (by decide) hf14 (fun _ h9 => h9) rfl dX10_closedSet_47 ?_
                    refine va_getN (D := G) (ci := 6) (v := .int t_current_n) (C := RX7) (T := TX7) (N := 2) hx hb hts inX7 hown hK hP 1 rfl rfl 1 (by decide) (hE.nest args 0 _ rfl) (fun _ h9 => h9) rfl dX10_closedSet_50 ?_
                    obtain ⟨ht, hf⟩ := h
                    refine lv_icmp_ge (tgt := 93) hx hb dX10_closedSet_53 (by decide) (fun c9 => ?_) (fun c9 => ?_)
                    · have h := ht c9
                      refine lv_iinc (v := (x5 + 1)) (lv' := [(5, .int (x5 + 1)), (0, .ref h_t), (2, .int x2), (3, .int x3), (4, .int x4), (6, .int x6)]) hx hb dX10_closedSet_93 hl (k := 4) rfl rfl (by decide) rfl (fun ls hl => ?_)
                      refine lv_goto (tgt := 29) hx hb dX10_closedSet_96 (by decide) ?_
                      exact rec29 x2 (x5 + 1) H locs ls h hP hD hS (lv_sub hl [1, 2, 3, 4, 0] rfl)
                    · have h := hf c9
                      refine lv_iload_n hx hb dX10_closedSet_56 rfl (lv_at hl 1 rfl) ?_
                      refine lv_iload hx hb dX10_closedSet_57 (lv_at hl 4 rfl) ?_
                      refine lv_ishr hx hb dX10_closedSet_59 ?_
                      refine lv_iload_n hx hb dX10_closedSet_60 rfl (lv_at hl 1 rfl) ?_
                      refine lv_iload hx hb dX10_closedSet_61 (lv_at hl 5 rfl) ?_
                      refine lv_ishr hx hb dX10_closedSet_63 ?_
                      refine lv_iand hx hb dX10_closedSet_64 ?_
                      refine lv_iconst (v := 1) hx hb dX10_closedSet_65 (by decide) ?_
                      refine lv_iand hx hb dX10_closedSet_66 ?_
                      refine lv_iconst (v := 1) hx hb dX10_closedSet_67 (by decide) ?_
                      obtain ⟨ht, hf⟩ := h
                      refine lv_icmp_ne (tgt := 87) hx hb dX10_closedSet_68 (by decide) (fun c9 => ?_) (fun c9 => ?_)
                      · have h := ht c9
                        refine lv_iinc (v := (x6 + 1)) (lv' := [(6, .int (x6 + 1)), (0, .ref h_t), (2, .int x2), (3, .int x3), (4, .int x4), (5, .int x5)]) hx hb dX10_closedSet_87 hl (k := 5) rfl rfl (by decide) rfl (fun ls hl => ?_)
                        refine lv_goto (tgt := 44) hx hb dX10_closedSet_90 (by decide) ?_
                        exact rec44 x2 (x6 + 1) H locs ls h hP hD hS (lv_sub hl [1, 2, 3, 4, 5, 0] rfl)
                      · have h := hf c9
                        refine lv_iload_n hx hb dX10_closedSet_71 rfl (lv_at hl 1 rfl) ?_
                        refine lv_iconst (v := 1) hx hb dX10_closedSet_72 (by decide) ?_
                        refine lv_aload_n hx hb dX10_closedSet_73 rfl (lv_at hl 0 rfl) ?_
                        refine va_get (D := G) (ci := 9) (v := .ref (B_t 0)) (C := RX10) (T := TX10) (N := 15) hx hb hts inX10 hown hK hP 0 rfl rfl 0 (by decide) hf14 (fun _ h9 => h9) rfl dX10_closedSet_74 ?_
                        refine lv_iload hx hb dX10_closedSet_77 (lv_at hl 4 rfl) ?_
                        refine lv_iload hx hb dX10_closedSet_79 (lv_at hl 5 rfl) ?_
                        refine mc_iV ⟨hx, hb, hml, hown, hts⟩ hK hE hA hP hD hS (c_X7_turned l G Y tF H.size (B_t 0) B_t_current t_current_n t_current_cells x5 x6 h) (cwV 2 hts gX10_closedSet_X7_turned rfl rfl rfl (by decide +kernel) ⟨Nat.le_trans (by decide) hRf, Nat.le_trans (by decide) hRl⟩) (fun u => (w_X10_closedSet Y h_t B_t B_t_current t_toldCount t_current_n t_current_cells)) [1, 2] [0] [0, 1, 2] rfl rfl rfl rfl (by decide) (fun _ => rfl) rfl 1 6 rfl rfl rfl rfl hl.1 rfl (Nat.le_of_ble_eq_true rfl) dX10_closedSet_81 (fun r81 u H locs h hP hD hS => ?_)
                        try dsimp only at h
                        have hP : va_P G vwCl (w_X10_closedSet Y h_t B_t B_t_current t_toldCount t_current_n t_current_cells) H := hP
                        have hD : va_D A (w_X10_closedSet Y h_t B_t B_t_current t_toldCount t_current_n t_current_cells) := hD
                        refine lv_ishl hx hb dX10_closedSet_84 ?_
                        refine lv_ior hx hb dX10_closedSet_85 ?_
                        refine lv_istore_n (lv' := [(2, .int (x2 ||| ((1 : Int32) <<< (r81 &&& 31)))), (0, .ref h_t), (3, .int x3), (4, .int x4), (5, .int x5), (6, .int x6)]) hx hb dX10_closedSet_86 rfl hl (by decide) rfl (fun ls hl => ?_)
                        refine lv_iinc (v := (x6 + 1)) (lv' := [(6, .int (x6 + 1)), (2, .int (x2 ||| ((1 : Int32) <<< (r81 &&& 31)))), (0, .ref h_t), (3, .int x3), (4, .int x4), (5, .int x5)]) hx hb dX10_closedSet_87 hl (k := 5) rfl rfl (by decide) rfl (fun ls hl => ?_)
                        refine lv_goto (tgt := 44) hx hb dX10_closedSet_90 (by decide) ?_
                        exact rec44 (x2 ||| ((1 : Int32) <<< (r81 &&& 31))) (x6 + 1) H locs ls h hP hD hS (lv_sub hl [2, 1, 3, 4, 5, 0] rfl)
                exact L44 x5 I44 m44 hB44 _ x2 (0 : Int32) H locs ls hI44 (Nat.lt_succ_self _) hP hD hS (lv_sub hl [1, 2, 3, 4, 5, 0] rfl)
          exact L29 x2 x4 I29 m29 hB29 _ x2 (0 : Int32) H locs ls hI29 (Nat.lt_succ_self _) hP hD hS (lv_sub hl [2, 3, 1, 4, 0] rfl)
  exact L7  I7 m7 hB7 _ x1 (0 : Int32) (0 : Int32) H locs ls hI7 (Nat.lt_succ_self _) hP hD hS (lv_sub hl [3, 2, 1, 0] rfl)

set_option maxHeartbeats 4000000 in
set_option maxRecDepth 100000 in
theorem c_X10_closedSet (l : Launch) (G : va_G) (Y : Nat → ClassId) (tF sz : Nat) (h_t : Nat) (B_t : Nat → Nat) (B_t_current : Nat → Nat) (t_toldCount : Int32) (t_current_n : Int32) (t_current_cells : Nat → Int32) (x1 : Int32) {K : Int32 → Prop} (h : pX10_closedSet t_current_n t_current_cells x1 K) : Met l yX10_closedSet wsX10_closedSet ({ frames := 1, cells := 0, slots := 0, locals := 22 }) (PcM G Y tF sz (w_X10_closedSet Y h_t B_t B_t_current t_toldCount t_current_n t_current_cells) [.ref h_t, .int x1]) (va_Qi (fun (r : Int32) (u : Unit) => K r ) (fun u t => BM G Y (va_A (w_X10_closedSet Y h_t B_t B_t_current t_toldCount t_current_n t_current_cells) sz) (w_X10_closedSet Y h_t B_t B_t_current t_toldCount t_current_n t_current_cells) t) (va_A (w_X10_closedSet Y h_t B_t B_t_current t_toldCount t_current_n t_current_cells) sz)) 0 0 (va_A (w_X10_closedSet Y h_t B_t B_t_current t_toldCount t_current_n t_current_cells) sz) := by
  refine Met.ofW (cc := cX10_closedSet) (maxL := 7) (ret := (some .int)) (by decide +kernel) rfl ?_
  intro p e s m args below meth c s₁ B hml hv
  obtain ⟨rfl, hsz, hP, hK, hD0, hE⟩ := hv
  have hts := atoms_spec (ws := wsX10_closedSet) B.pre
  have hown : s.vm.findClass RX10 = some m.cls := findClass_of_methodNamed B.named
  have hlocks := B.notSynchronized
  subst hsz
  have hD := hD0.self (sz := s.heap.size)
  exact wk_X10_closedSet h_t B_t B_t_current t_toldCount t_current_n t_current_cells x1 B.exec B.bytes hml hown hts hK hE (fun q h => Or.inr h) (Nat.le_refl _) (Nat.le_refl _) (fun r  H locs ls pc hP hD hS hk hd => W.iret (v := r) B.exec B.bytes B.returns (fun t ht hW => ⟨⟨r, (), rfl, hk, by rw [ht]; exact hP, va_K.moved hW.alike hK, hD⟩, hS.F ht⟩) hS.2.2 hd) hP hD h

abbrev w_X10_within (Y : Nat → ClassId) (h_t : Nat) (B_t : Nat → Nat) (B_t_current : Nat → Nat) (t_toldCount : Int32) (t_current_n : Int32) (t_current_cells : Nat → Int32) (t_told : Nat → Int32) : va_W := [(h_t, .inr (9, [.ref (B_t 0), .ref (B_t 1), .ref (B_t 2), .ref (B_t 3), .ref (B_t 4), .ref (B_t 5), .ref (B_t 6), .ref (B_t 7), .ref (B_t 8), .ref (B_t 9), .ref (B_t 10), .ref (B_t 11), .ref (B_t 12), .ref (B_t 13), .int t_toldCount])), ((B_t 0), .inr (6, [.ref (B_t_current 0), .int t_current_n])), ((B_t_current 0), .inl (Y 0, 64, .inl t_current_cells)), ((B_t 13), .inl (Y 0, 8, .inl t_told))]

set_option maxHeartbeats 4000000 in
set_option maxRecDepth 100000 in
theorem wk_X10_within {p : Program} {l : Launch} {e : Env} {R : Room} {s : State} {m : MethodId} {args : Array Value} {below : List Frame} {meth : Method} {c : Code} {Q : State → Prop} {G : va_G} {Y : Nat → ClassId} {tF : Nat} {A : Nat → Prop} (h_t : Nat) (B_t : Nat → Nat) (B_t_current : Nat → Nat) (t_toldCount : Int32) (t_current_n : Int32) (t_current_cells : Nat → Int32) (t_told : Nat → Int32) (x1 : Int32) {K : Int32 → Int32 → (Nat → Int32) → Prop} (hx : p.tables.exec = Jvm.exec) (hb : c.code = cX10_within) (hml : c.maxLocals = 4) (hown : s.vm.findClass RX10 = some m.cls) (hts : ∀ w ∈ wsX10_within, w.before args s = true) (hK : va_K G vwCl (tyL Y) s) (hE : Ev A tF s) (hA : ∀ q, s.heap.size ≤ q → A q) (hRf : 2 ≤ R.frames) (hRl : 48 ≤ R.locals) (hret : ∀ (r : Int32) (t_toldCount : Int32) (t_told : Nat → Int32) (H : Heap) (locs : List Loc) (ls : Array Slot) (pc : Nat), va_P G vwCl (w_X10_within Y h_t B_t B_t_current t_toldCount t_current_n t_current_cells t_told) H → va_D A (w_X10_within Y h_t B_t B_t_current t_toldCount t_current_n t_current_cells t_told) → va_S A s.heap H locs → K r t_toldCount t_told → decode cX10_within pc = .ok (.ireturn, 1) → W p l e R s m args below meth c H locs 0 0 Q (F0 m pc ls [.int r])) (hP : va_P G vwCl (w_X10_within Y h_t B_t B_t_current t_toldCount t_current_n t_current_cells t_told) s.heap) (hD : va_D A (w_X10_within Y h_t B_t B_t_current t_toldCount t_current_n t_current_cells t_told)) (h : pX10_within t_toldCount t_current_n t_current_cells t_told x1 K) : W p l e R s m args below meth c s.heap [] 0 0 Q (entryFrame m ([.ref h_t, .int x1] : List Value).toArray 4) := by
  have inX10 : ∀ w ∈ u_ws RX10 TX10 15, w ∈ wsX10_within := by decide +kernel
  have inX7 : ∀ w ∈ u_ws RX7 TX7 2, w ∈ wsX10_within := by decide +kernel
  have hf14 := hts (.fieldLink RX10 14 "RackBench" "current" "LRackBench$Table;") (by decide +kernel)
  have hf91 := hts (.fieldLink RX10 91 "RackBench" "toldCount" "I") (by decide +kernel)
  have hl := lv_entry ([.ref h_t, .int x1]) (n := 4) (Nat.le_of_ble_eq_true rfl)
  rw [lg_entry_eq]
  generalize (lg_sl ([.ref h_t, .int x1]) ++ List.replicate (4 - (lg_sl ([.ref h_t, .int x1])).length) Slot.unset).toArray = ls at hl ⊢
  have hl : lv_has ls 4 [(0, .ref h_t), (1, .int x1)] := hl
  generalize hH0 : s.heap = H at hP ⊢
  have hS : va_S A s.heap H [] := by rw [← hH0]; exact va_S.rf
  clear hH0
  generalize ([] : List Loc) = locs at hS ⊢
  refine lv_iload_n hx hb dX10_within_0 rfl (lv_at hl 1 rfl) ?_
  obtain ⟨ht, hf⟩ := h
  refine lv_if_le (tgt := 17) hx hb dX10_within_1 (by decide) (fun c9 => ?_) (fun c9 => ?_)
  · have h := ht c9
    refine lv_iconst (v := -1) hx hb dX10_within_17 (by decide) ?_
    exact hret (-1 : Int32) t_toldCount t_told H locs ls _ hP hD hS h dX10_within_18
  · have h := hf c9
    refine lv_iload_n hx hb dX10_within_4 rfl (lv_at hl 1 rfl) ?_
    refine lv_iconst (v := 1) hx hb dX10_within_5 (by decide) ?_
    refine lv_aload_n hx hb dX10_within_6 rfl (lv_at hl 0 rfl) ?_
    refine va_get (D := G) (ci := 9) (v := .ref (B_t 0)) (C := RX10) (T := TX10) (N := 15) hx hb hts inX10 hown hK hP 0 rfl rfl 0 (by decide) hf14 (fun _ h9 => h9) rfl dX10_within_7 ?_
    refine va_getN (D := G) (ci := 6) (v := .int t_current_n) (C := RX7) (T := TX7) (N := 2) hx hb hts inX7 hown hK hP 1 rfl rfl 1 (by decide) (hE.nest args 0 _ rfl) (fun _ h9 => h9) rfl dX10_within_10 ?_
    refine lv_ishl hx hb dX10_within_13 ?_
    obtain ⟨ht, hf⟩ := h
    refine lv_icmp_lt (tgt := 19) hx hb dX10_within_14 (by decide) (fun c9 => ?_) (fun c9 => ?_)
    · have h := ht c9
      refine lv_aload_n hx hb dX10_within_19 rfl (lv_at hl 0 rfl) ?_
      refine lv_iload_n hx hb dX10_within_20 rfl (lv_at hl 1 rfl) ?_
      refine mc_iV ⟨hx, hb, hml, hown, hts⟩ hK hE hA hP hD hS (c_X10_closedSet l G Y tF H.size h_t B_t B_t_current t_toldCount t_current_n t_current_cells x1 h) (cwV 1 hts gX10_within_X10_closedSet rfl rfl rfl (by decide +kernel) ⟨Nat.le_trans (by decide) hRf, Nat.le_trans (by decide) hRl⟩) (fun u => (w_X10_within Y h_t B_t B_t_current t_toldCount t_current_n t_current_cells t_told)) [0, 1, 2] [3] [1, 2, 3, 0] rfl rfl rfl rfl (by decide) (fun _ => rfl) rfl 0 9 rfl rfl rfl rfl hl.1 rfl (Nat.le_of_ble_eq_true rfl) dX10_within_21 (fun r21 u H locs h hP hD hS => ?_)
      try dsimp only at h
      have hP : va_P G vwCl (w_X10_within Y h_t B_t B_t_current t_toldCount t_current_n t_current_cells t_told) H := hP
      have hD : va_D A (w_X10_within Y h_t B_t B_t_current t_toldCount t_current_n t_current_cells t_told) := hD
      refine lv_istore_n (lv' := [(2, .int r21), (0, .ref h_t), (1, .int x1)]) hx hb dX10_within_24 rfl hl (by decide) rfl (fun ls hl => ?_)
      refine lv_aload_n hx hb dX10_within_25 rfl (lv_at hl 1 rfl) ?_
      refine lv_iconst (v := 0) hx hb dX10_within_26 (by decide) ?_
      refine va_put (D := G) (ci := 9) (v := .int (0 : Int32)) (ty := .int) (C := RX10) (T := TX10) (N := 15) hx hb hts inX10 tyX10 tyX10_ok nmX10 hown hK hP hD hS 0 rfl rfl 14 (by decide) hf91 (fun _ h9 => h9) rfl (by decide +kernel) rfl rfl (Nat.le_of_ble_eq_true rfl) dX10_within_27 (fun H locs hP hD hS => ?_)
      have hP : va_P G vwCl (w_X10_within Y h_t B_t B_t_current (0 : Int32) t_current_n t_current_cells t_told) H := hP
      have hD : va_D A (w_X10_within Y h_t B_t B_t_current (0 : Int32) t_current_n t_current_cells t_told) := hD
      refine lv_iconst (v := 0) hx hb dX10_within_30 (by decide) ?_
      refine lv_istore_n (lv' := [(3, .int (0 : Int32)), (2, .int r21), (0, .ref h_t), (1, .int x1)]) hx hb dX10_within_31 rfl hl (by decide) rfl (fun ls hl => ?_)
      obtain ⟨I32, m32, hI32, hB32⟩ := h
      have L32 : ∀ (x2 : Int32) (I32 : Int32 → Int32 → (Nat → Int32) → Prop) (m32 : Int32 → Int32 → (Nat → Int32) → Nat), (∀ (x3 : Int32) (t_toldCount : Int32) (t_told : Nat → Int32), I32 x3 t_toldCount t_told → pX10_within_32 t_current_n t_current_cells K x2 x3 t_toldCount t_told (fun x3' t_toldCount' t_told' => I32 x3' t_toldCount' t_told' ∧ m32 x3' t_toldCount' t_told' < m32 x3 t_toldCount t_told)) → ∀ (n : Nat) (x3 : Int32) (t_toldCount : Int32) (t_told : Nat → Int32) (H : Heap) (locs : List Loc) (ls : Array Slot), I32 x3 t_toldCount t_told → m32 x3 t_toldCount t_told < n → va_P G vwCl (w_X10_within Y h_t B_t B_t_current t_toldCount t_current_n t_current_cells t_told) H → va_D A (w_X10_within Y h_t B_t B_t_current t_toldCount t_current_n t_current_cells t_told) → va_S A s.heap H locs → lv_has ls 4 [(0, .ref h_t), (2, .int x2), (3, .int x3)] → W p l e R s m args below meth c H locs 0 0 Q (F0 m 32 ls []) := by
        intro x2 I32 m32 hB32 n
        induction n with
        | zero => intro x3 t_toldCount t_told H locs ls _ hm; exact absurd hm (Nat.not_lt_zero _)
        | succ n ih =>
          intro x3 t_toldCount t_told H locs ls hI hm hP hD hS hl
          obtain ⟨R32, h, rec32⟩ : ∃ R32 : Int32 → Int32 → (Nat → Int32) → Prop, pX10_within_32 t_current_n t_current_cells K x2 x3 t_toldCount t_told R32 ∧ ∀ (x3 : Int32) (t_toldCount : Int32) (t_told : Nat → Int32) (H : Heap) (locs : List Loc) (ls : Array Slot), R32 x3 t_toldCount t_told → va_P G vwCl (w_X10_within Y h_t B_t B_t_current t_toldCount t_current_n t_current_cells t_told) H → va_D A (w_X10_within Y h_t B_t B_t_current t_toldCount t_current_n t_current_cells t_told) → va_S A s.heap H locs → lv_has ls 4 [(0, .ref h_t), (2, .int x2), (3, .int x3)] → W p l e R s m args below meth c H locs 0 0 Q (F0 m 32 ls []) := ⟨_, hB32 x3 t_toldCount t_told hI, fun x3 t_toldCount t_told H locs ls hh hP hD hS hl => ih x3 t_toldCount t_told H locs ls hh.1 (Nat.lt_of_lt_of_le hh.2 (Nat.le_of_lt_succ hm)) hP hD hS hl⟩
          refine lv_iload_n hx hb dX10_within_32 rfl (lv_at hl 2 rfl) ?_
          refine lv_aload_n hx hb dX10_within_33 rfl (lv_at hl 0 rfl) ?_
          refine va_get (D := G) (ci := 9) (v := .ref (B_t 0)) (C := RX10) (T := TX10) (N := 15) hx hb hts inX10 hown hK hP 0 rfl rfl 0 (by decide) hf14 (fun _ h9 => h9) rfl dX10_within_34 ?_
          refine va_getN (D := G) (ci := 6) (v := .int t_current_n) (C := RX7) (T := TX7) (N := 2) hx hb hts inX7 hown hK hP 1 rfl rfl 1 (by decide) (hE.nest args 0 _ rfl) (fun _ h9 => h9) rfl dX10_within_37 ?_
          obtain ⟨ht, hf⟩ := h
          refine lv_icmp_ge (tgt := 63) hx hb dX10_within_40 (by decide) (fun c9 => ?_) (fun c9 => ?_)
          · have h := ht c9
            refine lv_aload_n hx hb dX10_within_63 rfl (lv_at hl 0 rfl) ?_
            refine va_get (D := G) (ci := 9) (v := .int t_toldCount) (C := RX10) (T := TX10) (N := 15) hx hb hts inX10 hown hK hP 0 rfl rfl 14 (by decide) hf91 (fun _ h9 => h9) rfl dX10_within_64 ?_
            exact hret t_toldCount t_toldCount t_told H locs ls _ hP hD hS h dX10_within_67
          · have h := hf c9
            refine lv_iload_n hx hb dX10_within_43 rfl (lv_at hl 1 rfl) ?_
            refine lv_iload_n hx hb dX10_within_44 rfl (lv_at hl 2 rfl) ?_
            refine lv_ishr hx hb dX10_within_45 ?_
            refine lv_iconst (v := 1) hx hb dX10_within_46 (by decide) ?_
            refine lv_iand hx hb dX10_within_47 ?_
            refine lv_iconst (v := 1) hx hb dX10_within_48 (by decide) ?_
            obtain ⟨ht, hf⟩ := h
            refine lv_icmp_ne (tgt := 57) hx hb dX10_within_49 (by decide) (fun c9 => ?_) (fun c9 => ?_)
            · have h := ht c9
              refine lv_iinc (v := (x3 + 1)) (lv' := [(3, .int (x3 + 1)), (0, .ref h_t), (2, .int x2)]) hx hb dX10_within_57 hl (k := 2) rfl rfl (by decide) rfl (fun ls hl => ?_)
              refine lv_goto (tgt := 32) hx hb dX10_within_60 (by decide) ?_
              exact rec32 (x3 + 1) t_toldCount t_told H locs ls h hP hD hS (lv_sub hl [1, 2, 0] rfl)
            · have h := hf c9
              refine lv_aload_n hx hb dX10_within_52 rfl (lv_at hl 0 rfl) ?_
              refine lv_iload_n hx hb dX10_within_53 rfl (lv_at hl 2 rfl) ?_
              refine mc_vV ⟨hx, hb, hml, hown, hts⟩ hK hE hA hP hD hS (c_X10_tell l G Y tF H.size h_t B_t t_toldCount t_told x3 h) (cwV 1 hts gX10_within_X10_tell rfl rfl rfl (by decide +kernel) ⟨Nat.le_trans (by decide) hRf, Nat.le_trans (by decide) hRl⟩) (fun u => (w_X10_within Y h_t B_t B_t_current u.1 t_current_n t_current_cells u.2)) [0, 3] [1, 2] [2, 0, 1, 3] rfl rfl rfl rfl (by decide) (fun _ => rfl) rfl 0 9 rfl rfl rfl rfl hl.1 rfl (Nat.le_of_ble_eq_true rfl) dX10_within_54 (fun u H locs h hP hD hS => ?_)
              obtain ⟨t_toldCount_54, t_told_54⟩ := u
              try dsimp only at h
              have hP : va_P G vwCl (w_X10_within Y h_t B_t B_t_current t_toldCount_54 t_current_n t_current_cells t_told_54) H := hP
              have hD : va_D A (w_X10_within Y h_t B_t B_t_current t_toldCount_54 t_current_n t_current_cells t_told_54) := hD
              refine lv_iinc (v := (x3 + 1)) (lv' := [(3, .int (x3 + 1)), (0, .ref h_t), (2, .int x2)]) hx hb dX10_within_57 hl (k := 2) rfl rfl (by decide) rfl (fun ls hl => ?_)
              refine lv_goto (tgt := 32) hx hb dX10_within_60 (by decide) ?_
              exact rec32 (x3 + 1) t_toldCount_54 t_told_54 H locs ls h hP hD hS (lv_sub hl [1, 2, 0] rfl)
      exact L32 r21 I32 m32 hB32 _ (0 : Int32) (0 : Int32) t_told H locs ls hI32 (Nat.lt_succ_self _) hP hD hS (lv_sub hl [2, 1, 0] rfl)
    · have h := hf c9
      refine lv_iconst (v := -1) hx hb dX10_within_17 (by decide) ?_
      exact hret (-1 : Int32) t_toldCount t_told H locs ls _ hP hD hS h dX10_within_18

set_option maxHeartbeats 4000000 in
set_option maxRecDepth 100000 in
theorem c_X10_within (l : Launch) (G : va_G) (Y : Nat → ClassId) (tF sz : Nat) (h_t : Nat) (B_t : Nat → Nat) (B_t_current : Nat → Nat) (t_toldCount : Int32) (t_current_n : Int32) (t_current_cells : Nat → Int32) (t_told : Nat → Int32) (x1 : Int32) {K : Int32 → Int32 → (Nat → Int32) → Prop} (h : pX10_within t_toldCount t_current_n t_current_cells t_told x1 K) : Met l yX10_within wsX10_within ({ frames := 2, cells := 0, slots := 0, locals := 48 }) (PcM G Y tF sz (w_X10_within Y h_t B_t B_t_current t_toldCount t_current_n t_current_cells t_told) [.ref h_t, .int x1]) (va_Qi (fun (r : Int32) (u : Int32 × (Nat → Int32)) => K r u.1 u.2) (fun u t => BM G Y (va_A (w_X10_within Y h_t B_t B_t_current t_toldCount t_current_n t_current_cells t_told) sz) (w_X10_within Y h_t B_t B_t_current u.1 t_current_n t_current_cells u.2) t) (va_A (w_X10_within Y h_t B_t B_t_current t_toldCount t_current_n t_current_cells t_told) sz)) 0 0 (va_A (w_X10_within Y h_t B_t B_t_current t_toldCount t_current_n t_current_cells t_told) sz) := by
  refine Met.ofW (cc := cX10_within) (maxL := 4) (ret := (some .int)) (by decide +kernel) rfl ?_
  intro p e s m args below meth c s₁ B hml hv
  obtain ⟨rfl, hsz, hP, hK, hD0, hE⟩ := hv
  have hts := atoms_spec (ws := wsX10_within) B.pre
  have hown : s.vm.findClass RX10 = some m.cls := findClass_of_methodNamed B.named
  have hlocks := B.notSynchronized
  subst hsz
  have hD := hD0.self (sz := s.heap.size)
  exact wk_X10_within h_t B_t B_t_current t_toldCount t_current_n t_current_cells t_told x1 B.exec B.bytes hml hown hts hK hE (fun q h => Or.inr h) (Nat.le_refl _) (Nat.le_refl _) (fun r t_toldCount t_told H locs ls pc hP hD hS hk hd => W.iret (v := r) B.exec B.bytes B.returns (fun t ht hW => ⟨⟨r, (t_toldCount, t_told), rfl, hk, by rw [ht]; exact hP, va_K.moved hW.alike hK, hD⟩, hS.F ht⟩) hS.2.2 hd) hP hD h

abbrev w_X10_modulus (Y : Nat → ClassId) (h_t : Nat) (B_t : Nat → Nat) (B_t_twisting : Nat → Nat) (t_toldCount : Int32) (t_twisting_modulus : Int32) (t_twisting_values : Nat → Int32) : va_W := [(h_t, .inr (9, [.ref (B_t 0), .ref (B_t 1), .ref (B_t 2), .ref (B_t 3), .ref (B_t 4), .ref (B_t 5), .ref (B_t 6), .ref (B_t 7), .ref (B_t 8), .ref (B_t 9), .ref (B_t 10), .ref (B_t 11), .ref (B_t 12), .ref (B_t 13), .int t_toldCount])), ((B_t 4), .inr (8, [.ref (B_t_twisting 0), .int t_twisting_modulus])), ((B_t_twisting 0), .inl (Y 0, 64, .inl t_twisting_values))]

set_option maxHeartbeats 4000000 in
set_option maxRecDepth 100000 in
theorem wk_X10_modulus {p : Program} {l : Launch} {e : Env} {R : Room} {s : State} {m : MethodId} {args : Array Value} {below : List Frame} {meth : Method} {c : Code} {Q : State → Prop} {G : va_G} {Y : Nat → ClassId} {tF : Nat} {A : Nat → Prop} (h_t : Nat) (B_t : Nat → Nat) (B_t_twisting : Nat → Nat) (t_toldCount : Int32) (t_twisting_modulus : Int32) (t_twisting_values : Nat → Int32) (x1 : Int32) {K : Int32 → Int32 → (Nat → Int32) → Prop} (hx : p.tables.exec = Jvm.exec) (hb : c.code = cX10_modulus) (hml : c.maxLocals = 2) (hown : s.vm.findClass RX10 = some m.cls) (hts : ∀ w ∈ wsX10_modulus, w.before args s = true) (hK : va_K G vwCl (tyL Y) s) (hE : Ev A tF s) (hA : ∀ q, s.heap.size ≤ q → A q) (hRf : 2 ≤ R.frames) (hRl : 43 ≤ R.locals) (hret : ∀ (r : Int32) (t_twisting_modulus : Int32) (t_twisting_values : Nat → Int32) (H : Heap) (locs : List Loc) (ls : Array Slot) (pc : Nat), va_P G vwCl (w_X10_modulus Y h_t B_t B_t_twisting t_toldCount t_twisting_modulus t_twisting_values) H → va_D A (w_X10_modulus Y h_t B_t B_t_twisting t_toldCount t_twisting_modulus t_twisting_values) → va_S A s.heap H locs → zb r → K r t_twisting_modulus t_twisting_values → decode cX10_modulus pc = .ok (.ireturn, 1) → W p l e R s m args below meth c H locs 0 0 Q (F0 m pc ls [.int r])) (hP : va_P G vwCl (w_X10_modulus Y h_t B_t B_t_twisting t_toldCount t_twisting_modulus t_twisting_values) s.heap) (hD : va_D A (w_X10_modulus Y h_t B_t B_t_twisting t_toldCount t_twisting_modulus t_twisting_values)) (h : pX10_modulus t_twisting_modulus t_twisting_values x1 K) : W p l e R s m args below meth c s.heap [] 0 0 Q (entryFrame m ([.ref h_t, .int x1] : List Value).toArray 2) := by
  have inX10 : ∀ w ∈ u_ws RX10 TX10 15, w ∈ wsX10_modulus := by decide +kernel
  have inX9 : ∀ w ∈ u_ws RX9 TX9 2, w ∈ wsX10_modulus := by decide +kernel
  have hf31 := hts (.fieldLink RX10 31 "RackBench" "twisting" "LRackBench$Twist;") (by decide +kernel)
  have hl := lv_entry ([.ref h_t, .int x1]) (n := 2) (Nat.le_of_ble_eq_true rfl)
  rw [lg_entry_eq]
  generalize (lg_sl ([.ref h_t, .int x1]) ++ List.replicate (2 - (lg_sl ([.ref h_t, .int x1])).length) Slot.unset).toArray = ls at hl ⊢
  have hl : lv_has ls 2 [(0, .ref h_t), (1, .int x1)] := hl
  generalize hH0 : s.heap = H at hP ⊢
  have hS : va_S A s.heap H [] := by rw [← hH0]; exact va_S.rf
  clear hH0
  generalize ([] : List Loc) = locs at hS ⊢
  refine lv_iload_n hx hb dX10_modulus_0 rfl (lv_at hl 1 rfl) ?_
  refine lv_iconst (v := 2) hx hb dX10_modulus_1 (by decide) ?_
  obtain ⟨ht, hf⟩ := h
  refine lv_icmp_lt (tgt := 11) hx hb dX10_modulus_2 (by decide) (fun c9 => ?_) (fun c9 => ?_)
  · have h := ht c9
    refine lv_iconst (v := 0) hx hb dX10_modulus_11 (by decide) ?_
    obtain ⟨hz, h⟩ := h
    exact hret (0 : Int32) t_twisting_modulus t_twisting_values H locs ls _ hP hD hS hz h dX10_modulus_12
  · have h := hf c9
    refine lv_iload_n hx hb dX10_modulus_5 rfl (lv_at hl 1 rfl) ?_
    refine lv_bipush (v := 7) hx hb dX10_modulus_6 (by decide) ?_
    obtain ⟨ht, hf⟩ := h
    refine lv_icmp_le (tgt := 13) hx hb dX10_modulus_8 (by decide) (fun c9 => ?_) (fun c9 => ?_)
    · have h := ht c9
      refine lv_aload_n hx hb dX10_modulus_13 rfl (lv_at hl 0 rfl) ?_
      refine va_get (D := G) (ci := 9) (v := .ref (B_t 4)) (C := RX10) (T := TX10) (N := 15) hx hb hts inX10 hown hK hP 0 rfl rfl 4 (by decide) hf31 (fun _ h9 => h9) rfl dX10_modulus_14 ?_
      refine lv_iload_n hx hb dX10_modulus_17 rfl (lv_at hl 1 rfl) ?_
      refine va_putN (D := G) (ci := 8) (v := .int x1) (ty := .int) (C := RX9) (T := TX9) (N := 2) hx hb hts inX9 tyX9 tyX9_ok nmX9 hown hK hP hD hS 1 rfl rfl 1 (by decide) (hE.nest args 1 _ rfl) (fun _ h9 => h9) rfl (by decide +kernel) rfl rfl (Nat.le_of_ble_eq_true rfl) dX10_modulus_18 (fun H locs hP hD hS => ?_)
      have hP : va_P G vwCl (w_X10_modulus Y h_t B_t B_t_twisting t_toldCount x1 t_twisting_values) H := hP
      have hD : va_D A (w_X10_modulus Y h_t B_t B_t_twisting t_toldCount x1 t_twisting_values) := hD
      refine lv_aload_n hx hb dX10_modulus_21 rfl (lv_at hl 0 rfl) ?_
      refine va_get (D := G) (ci := 9) (v := .ref (B_t 4)) (C := RX10) (T := TX10) (N := 15) hx hb hts inX10 hown hK hP 0 rfl rfl 4 (by decide) hf31 (fun _ h9 => h9) rfl dX10_modulus_22 ?_
      refine mc_vV ⟨hx, hb, hml, hown, hts⟩ hK hE hA hP hD hS (c_X9_flatten l G Y tF H.size (B_t 4) B_t_twisting x1 t_twisting_values h) (cwV 0 hts gX10_modulus_X9_flatten rfl rfl rfl (by decide +kernel) ⟨Nat.le_trans (by decide) hRf, Nat.le_trans (by decide) hRl⟩) (fun u => (w_X10_modulus Y h_t B_t B_t_twisting t_toldCount x1 u)) [1, 2] [0] [0, 1, 2] rfl rfl rfl rfl (by decide) (fun _ => rfl) rfl 1 8 rfl rfl rfl rfl hl.1 rfl (Nat.le_of_ble_eq_true rfl) dX10_modulus_25 (fun u H locs h hP hD hS => ?_)
      obtain ⟨t_twisting_values_25, rfl⟩ : ∃ z, z = u := ⟨_, rfl⟩
      try dsimp only at h
      have hP : va_P G vwCl (w_X10_modulus Y h_t B_t B_t_twisting t_toldCount x1 t_twisting_values_25) H := hP
      have hD : va_D A (w_X10_modulus Y h_t B_t B_t_twisting t_toldCount x1 t_twisting_values_25) := hD
      refine lv_iconst (v := 1) hx hb dX10_modulus_28 (by decide) ?_
      obtain ⟨hz, h⟩ := h
      exact hret (1 : Int32) x1 t_twisting_values_25 H locs ls _ hP hD hS hz h dX10_modulus_29
    · have h := hf c9
      refine lv_iconst (v := 0) hx hb dX10_modulus_11 (by decide) ?_
      obtain ⟨hz, h⟩ := h
      exact hret (0 : Int32) t_twisting_modulus t_twisting_values H locs ls _ hP hD hS hz h dX10_modulus_12

set_option maxHeartbeats 4000000 in
set_option maxRecDepth 100000 in
theorem c_X10_modulus (l : Launch) (G : va_G) (Y : Nat → ClassId) (tF sz : Nat) (h_t : Nat) (B_t : Nat → Nat) (B_t_twisting : Nat → Nat) (t_toldCount : Int32) (t_twisting_modulus : Int32) (t_twisting_values : Nat → Int32) (x1 : Int32) {K : Int32 → Int32 → (Nat → Int32) → Prop} (h : pX10_modulus t_twisting_modulus t_twisting_values x1 K) : Met l yX10_modulus wsX10_modulus ({ frames := 2, cells := 0, slots := 0, locals := 43 }) (PcM G Y tF sz (w_X10_modulus Y h_t B_t B_t_twisting t_toldCount t_twisting_modulus t_twisting_values) [.ref h_t, .int x1]) (va_Qi (fun (r : Int32) (u : Int32 × (Nat → Int32)) => K r u.1 u.2) (fun u t => BM G Y (va_A (w_X10_modulus Y h_t B_t B_t_twisting t_toldCount t_twisting_modulus t_twisting_values) sz) (w_X10_modulus Y h_t B_t B_t_twisting t_toldCount u.1 u.2) t) (va_A (w_X10_modulus Y h_t B_t B_t_twisting t_toldCount t_twisting_modulus t_twisting_values) sz)) 0 0 (va_A (w_X10_modulus Y h_t B_t B_t_twisting t_toldCount t_twisting_modulus t_twisting_values) sz) := by
  refine Met.ofW (cc := cX10_modulus) (maxL := 2) (ret := (some .boolean)) (by decide +kernel) rfl ?_
  intro p e s m args below meth c s₁ B hml hv
  obtain ⟨rfl, hsz, hP, hK, hD0, hE⟩ := hv
  have hts := atoms_spec (ws := wsX10_modulus) B.pre
  have hown : s.vm.findClass RX10 = some m.cls := findClass_of_methodNamed B.named
  have hlocks := B.notSynchronized
  subst hsz
  have hD := hD0.self (sz := s.heap.size)
  exact wk_X10_modulus h_t B_t B_t_twisting t_toldCount t_twisting_modulus t_twisting_values x1 B.exec B.bytes hml hown hts hK hE (fun q h => Or.inr h) (Nat.le_refl _) (Nat.le_refl _) (fun r t_twisting_modulus t_twisting_values H locs ls pc hP hD hS hz hk hd => W.zret (v := r) B.exec B.bytes B.returns hz.n (fun t ht hW => ⟨⟨r, (t_twisting_modulus, t_twisting_values), rfl, hk, by rw [ht]; exact hP, va_K.moved hW.alike hK, hD⟩, hS.F ht⟩) hS.2.2 hd) hP hD h

abbrev w_X10_twist (Y : Nat → ClassId) (h_t : Nat) (B_t : Nat → Nat) (B_t_current : Nat → Nat) (B_t_twisting : Nat → Nat) (t_toldCount : Int32) (t_current_n : Int32) (t_twisting_modulus : Int32) (t_twisting_values : Nat → Int32) : va_W := [(h_t, .inr (9, [.ref (B_t 0), .ref (B_t 1), .ref (B_t 2), .ref (B_t 3), .ref (B_t 4), .ref (B_t 5), .ref (B_t 6), .ref (B_t 7), .ref (B_t 8), .ref (B_t 9), .ref (B_t 10), .ref (B_t 11), .ref (B_t 12), .ref (B_t 13), .int t_toldCount])), ((B_t 0), .inr (6, [.ref (B_t_current 0), .int t_current_n])), ((B_t 4), .inr (8, [.ref (B_t_twisting 0), .int t_twisting_modulus])), ((B_t_twisting 0), .inl (Y 0, 64, .inl t_twisting_values))]

set_option maxHeartbeats 4000000 in
set_option maxRecDepth 100000 in
theorem wk_X10_twist {p : Program} {l : Launch} {e : Env} {R : Room} {s : State} {m : MethodId} {args : Array Value} {below : List Frame} {meth : Method} {c : Code} {Q : State → Prop} {G : va_G} {Y : Nat → ClassId} {tF : Nat} {A : Nat → Prop} (h_t : Nat) (B_t : Nat → Nat) (B_t_current : Nat → Nat) (B_t_twisting : Nat → Nat) (t_toldCount : Int32) (t_current_n : Int32) (t_twisting_modulus : Int32) (t_twisting_values : Nat → Int32) (x1 : Int32) (x2 : Int32) (x3 : Int32) {K : Int32 → (Nat → Int32) → Prop} (hx : p.tables.exec = Jvm.exec) (hb : c.code = cX10_twist) (hml : c.maxLocals = 4) (hown : s.vm.findClass RX10 = some m.cls) (hts : ∀ w ∈ wsX10_twist, w.before args s = true) (hK : va_K G vwCl (tyL Y) s) (hE : Ev A tF s) (hA : ∀ q, s.heap.size ≤ q → A q) (hRf : 1 ≤ R.frames) (hRl : 23 ≤ R.locals) (hret : ∀ (r : Int32) (t_twisting_values : Nat → Int32) (H : Heap) (locs : List Loc) (ls : Array Slot) (pc : Nat), va_P G vwCl (w_X10_twist Y h_t B_t B_t_current B_t_twisting t_toldCount t_current_n t_twisting_modulus t_twisting_values) H → va_D A (w_X10_twist Y h_t B_t B_t_current B_t_twisting t_toldCount t_current_n t_twisting_modulus t_twisting_values) → va_S A s.heap H locs → zb r → K r t_twisting_values → decode cX10_twist pc = .ok (.ireturn, 1) → W p l e R s m args below meth c H locs 0 0 Q (F0 m pc ls [.int r])) (hP : va_P G vwCl (w_X10_twist Y h_t B_t B_t_current B_t_twisting t_toldCount t_current_n t_twisting_modulus t_twisting_values) s.heap) (hD : va_D A (w_X10_twist Y h_t B_t B_t_current B_t_twisting t_toldCount t_current_n t_twisting_modulus t_twisting_values)) (h : pX10_twist t_current_n t_twisting_modulus t_twisting_values x1 x2 x3 K) : W p l e R s m args below meth c s.heap [] 0 0 Q (entryFrame m ([.ref h_t, .int x1, .int x2, .int x3] : List Value).toArray 4) := by
  have inX10 : ∀ w ∈ u_ws RX10 TX10 15, w ∈ wsX10_twist := by decide +kernel
  have inX9 : ∀ w ∈ u_ws RX9 TX9 2, w ∈ wsX10_twist := by decide +kernel
  have hf14 := hts (.fieldLink RX10 14 "RackBench" "current" "LRackBench$Table;") (by decide +kernel)
  have hf31 := hts (.fieldLink RX10 31 "RackBench" "twisting" "LRackBench$Twist;") (by decide +kernel)
  have hl := lv_entry ([.ref h_t, .int x1, .int x2, .int x3]) (n := 4) (Nat.le_of_ble_eq_true rfl)
  rw [lg_entry_eq]
  generalize (lg_sl ([.ref h_t, .int x1, .int x2, .int x3]) ++ List.replicate (4 - (lg_sl ([.ref h_t, .int x1, .int x2, .int x3])).length) Slot.unset).toArray = ls at hl ⊢
  have hl : lv_has ls 4 [(0, .ref h_t), (1, .int x1), (2, .int x2), (3, .int x3)] := hl
  generalize hH0 : s.heap = H at hP ⊢
  have hS : va_S A s.heap H [] := by rw [← hH0]; exact va_S.rf
  clear hH0
  generalize ([] : List Loc) = locs at hS ⊢
  refine lv_aload_n hx hb dX10_twist_0 rfl (lv_at hl 0 rfl) ?_
  refine va_get (D := G) (ci := 9) (v := .ref (B_t 0)) (C := RX10) (T := TX10) (N := 15) hx hb hts inX10 hown hK hP 0 rfl rfl 0 (by decide) hf14 (fun _ h9 => h9) rfl dX10_twist_1 ?_
  refine lv_iload_n hx hb dX10_twist_4 rfl (lv_at hl 1 rfl) ?_
  refine mc_iV ⟨hx, hb, hml, hown, hts⟩ hK hE hA hP hD hS (c_X7_has l G Y tF H.size (B_t 0) B_t_current t_current_n x1 h) (cwV 1 hts gX10_twist_X7_has rfl rfl rfl (by decide +kernel) ⟨Nat.le_trans (by decide) hRf, Nat.le_trans (by decide) hRl⟩) (fun u => (w_X10_twist Y h_t B_t B_t_current B_t_twisting t_toldCount t_current_n t_twisting_modulus t_twisting_values)) [1] [0, 2, 3] [0, 3, 1, 2] rfl rfl rfl rfl (by decide) (fun _ => rfl) rfl 1 6 rfl rfl rfl rfl hl.1 rfl (Nat.le_of_ble_eq_true rfl) dX10_twist_5 (fun r5 u H locs h hP hD hS => ?_)
  try dsimp only at h
  have hP : va_P G vwCl (w_X10_twist Y h_t B_t B_t_current B_t_twisting t_toldCount t_current_n t_twisting_modulus t_twisting_values) H := hP
  have hD : va_D A (w_X10_twist Y h_t B_t B_t_current B_t_twisting t_toldCount t_current_n t_twisting_modulus t_twisting_values) := hD
  obtain ⟨ht, hf⟩ := h
  refine lv_if_eq (tgt := 37) hx hb dX10_twist_8 (by decide) (fun c9 => ?_) (fun c9 => ?_)
  · have h := ht c9
    refine lv_iconst (v := 0) hx hb dX10_twist_37 (by decide) ?_
    obtain ⟨hz, h⟩ := h
    exact hret (0 : Int32) t_twisting_values H locs ls _ hP hD hS hz h dX10_twist_38
  · have h := hf c9
    refine lv_aload_n hx hb dX10_twist_11 rfl (lv_at hl 0 rfl) ?_
    refine va_get (D := G) (ci := 9) (v := .ref (B_t 0)) (C := RX10) (T := TX10) (N := 15) hx hb hts inX10 hown hK hP 0 rfl rfl 0 (by decide) hf14 (fun _ h9 => h9) rfl dX10_twist_12 ?_
    refine lv_iload_n hx hb dX10_twist_15 rfl (lv_at hl 2 rfl) ?_
    refine mc_iV ⟨hx, hb, hml, hown, hts⟩ hK hE hA hP hD hS (c_X7_has l G Y tF H.size (B_t 0) B_t_current t_current_n x2 h) (cwV 1 hts gX10_twist_X7_has rfl rfl rfl (by decide +kernel) ⟨Nat.le_trans (by decide) hRf, Nat.le_trans (by decide) hRl⟩) (fun u => (w_X10_twist Y h_t B_t B_t_current B_t_twisting t_toldCount t_current_n t_twisting_modulus t_twisting_values)) [1] [0, 2, 3] [0, 3, 1, 2] rfl rfl rfl rfl (by decide) (fun _ => rfl) rfl 1 6 rfl rfl rfl rfl hl.1 rfl (Nat.le_of_ble_eq_true rfl) dX10_twist_16 (fun r16 u H locs h hP hD hS => ?_)
    try dsimp only at h
    have hP : va_P G vwCl (w_X10_twist Y h_t B_t B_t_current B_t_twisting t_toldCount t_current_n t_twisting_modulus t_twisting_values) H := hP
    have hD : va_D A (w_X10_twist Y h_t B_t B_t_current B_t_twisting t_toldCount t_current_n t_twisting_modulus t_twisting_values) := hD
    obtain ⟨ht, hf⟩ := h
    refine lv_if_eq (tgt := 37) hx hb dX10_twist_19 (by decide) (fun c9 => ?_) (fun c9 => ?_)
    · have h := ht c9
      refine lv_iconst (v := 0) hx hb dX10_twist_37 (by decide) ?_
      obtain ⟨hz, h⟩ := h
      exact hret (0 : Int32) t_twisting_values H locs ls _ hP hD hS hz h dX10_twist_38
    · have h := hf c9
      refine lv_iload_n hx hb dX10_twist_22 rfl (lv_at hl 3 rfl) ?_
      obtain ⟨ht, hf⟩ := h
      refine lv_if_lt (tgt := 37) hx hb dX10_twist_23 (by decide) (fun c9 => ?_) (fun c9 => ?_)
      · have h := ht c9
        refine lv_iconst (v := 0) hx hb dX10_twist_37 (by decide) ?_
        obtain ⟨hz, h⟩ := h
        exact hret (0 : Int32) t_twisting_values H locs ls _ hP hD hS hz h dX10_twist_38
      · have h := hf c9
        refine lv_iload_n hx hb dX10_twist_26 rfl (lv_at hl 3 rfl) ?_
        refine lv_aload_n hx hb dX10_twist_27 rfl (lv_at hl 0 rfl) ?_
        refine va_get (D := G) (ci := 9) (v := .ref (B_t 4)) (C := RX10) (T := TX10) (N := 15) hx hb hts inX10 hown hK hP 0 rfl rfl 4 (by decide) hf31 (fun _ h9 => h9) rfl dX10_twist_28 ?_
        refine va_getN (D := G) (ci := 8) (v := .int t_twisting_modulus) (C := RX9) (T := TX9) (N := 2) hx hb hts inX9 hown hK hP 2 rfl rfl 1 (by decide) (hE.nest args 1 _ rfl) (fun _ h9 => h9) rfl dX10_twist_31 ?_
        obtain ⟨ht, hf⟩ := h
        refine lv_icmp_lt (tgt := 39) hx hb dX10_twist_34 (by decide) (fun c9 => ?_) (fun c9 => ?_)
        · have h := ht c9
          refine lv_aload_n hx hb dX10_twist_39 rfl (lv_at hl 0 rfl) ?_
          refine va_get (D := G) (ci := 9) (v := .ref (B_t 4)) (C := RX10) (T := TX10) (N := 15) hx hb hts inX10 hown hK hP 0 rfl rfl 4 (by decide) hf31 (fun _ h9 => h9) rfl dX10_twist_40 ?_
          refine lv_iload_n hx hb dX10_twist_43 rfl (lv_at hl 1 rfl) ?_
          refine lv_iload_n hx hb dX10_twist_44 rfl (lv_at hl 2 rfl) ?_
          refine lv_iload_n hx hb dX10_twist_45 rfl (lv_at hl 3 rfl) ?_
          refine mc_vV ⟨hx, hb, hml, hown, hts⟩ hK hE hA hP hD hS (c_X9_put l G Y tF H.size (B_t 4) B_t_twisting t_twisting_modulus t_twisting_values x1 x2 x3 h) (cwV 3 hts gX10_twist_X9_put rfl rfl rfl (by decide +kernel) ⟨Nat.le_trans (by decide) hRf, Nat.le_trans (by decide) hRl⟩) (fun u => (w_X10_twist Y h_t B_t B_t_current B_t_twisting t_toldCount t_current_n t_twisting_modulus u)) [2, 3] [0, 1] [0, 1, 2, 3] rfl rfl rfl rfl (by decide) (fun _ => rfl) rfl 2 8 rfl rfl rfl rfl hl.1 rfl (Nat.le_of_ble_eq_true rfl) dX10_twist_46 (fun u H locs h hP hD hS => ?_)
          obtain ⟨t_twisting_values_46, rfl⟩ : ∃ z, z = u := ⟨_, rfl⟩
          try dsimp only at h
          have hP : va_P G vwCl (w_X10_twist Y h_t B_t B_t_current B_t_twisting t_toldCount t_current_n t_twisting_modulus t_twisting_values_46) H := hP
          have hD : va_D A (w_X10_twist Y h_t B_t B_t_current B_t_twisting t_toldCount t_current_n t_twisting_modulus t_twisting_values_46) := hD
          refine lv_iconst (v := 1) hx hb dX10_twist_49 (by decide) ?_
          obtain ⟨hz, h⟩ := h
          exact hret (1 : Int32) t_twisting_values_46 H locs ls _ hP hD hS hz h dX10_twist_50
        · have h := hf c9
          refine lv_iconst (v := 0) hx hb dX10_twist_37 (by decide) ?_
          obtain ⟨hz, h⟩ := h
          exact hret (0 : Int32) t_twisting_values H locs ls _ hP hD hS hz h dX10_twist_38

set_option maxHeartbeats 4000000 in
set_option maxRecDepth 100000 in
theorem c_X10_twist (l : Launch) (G : va_G) (Y : Nat → ClassId) (tF sz : Nat) (h_t : Nat) (B_t : Nat → Nat) (B_t_current : Nat → Nat) (B_t_twisting : Nat → Nat) (t_toldCount : Int32) (t_current_n : Int32) (t_twisting_modulus : Int32) (t_twisting_values : Nat → Int32) (x1 : Int32) (x2 : Int32) (x3 : Int32) {K : Int32 → (Nat → Int32) → Prop} (h : pX10_twist t_current_n t_twisting_modulus t_twisting_values x1 x2 x3 K) : Met l yX10_twist wsX10_twist ({ frames := 1, cells := 0, slots := 0, locals := 23 }) (PcM G Y tF sz (w_X10_twist Y h_t B_t B_t_current B_t_twisting t_toldCount t_current_n t_twisting_modulus t_twisting_values) [.ref h_t, .int x1, .int x2, .int x3]) (va_Qi (fun (r : Int32) (u : (Nat → Int32)) => K r u) (fun u t => BM G Y (va_A (w_X10_twist Y h_t B_t B_t_current B_t_twisting t_toldCount t_current_n t_twisting_modulus t_twisting_values) sz) (w_X10_twist Y h_t B_t B_t_current B_t_twisting t_toldCount t_current_n t_twisting_modulus u) t) (va_A (w_X10_twist Y h_t B_t B_t_current B_t_twisting t_toldCount t_current_n t_twisting_modulus t_twisting_values) sz)) 0 0 (va_A (w_X10_twist Y h_t B_t B_t_current B_t_twisting t_toldCount t_current_n t_twisting_modulus t_twisting_values) sz) := by
  refine Met.ofW (cc := cX10_twist) (maxL := 4) (ret := (some .boolean)) (by decide +kernel) rfl ?_
  intro p e s m args below meth c s₁ B hml hv
  obtain ⟨rfl, hsz, hP, hK, hD0, hE⟩ := hv
  have hts := atoms_spec (ws := wsX10_twist) B.pre
  have hown : s.vm.findClass RX10 = some m.cls := findClass_of_methodNamed B.named
  have hlocks := B.notSynchronized
  subst hsz
  have hD := hD0.self (sz := s.heap.size)
  exact wk_X10_twist h_t B_t B_t_current B_t_twisting t_toldCount t_current_n t_twisting_modulus t_twisting_values x1 x2 x3 B.exec B.bytes hml hown hts hK hE (fun q h => Or.inr h) (Nat.le_refl _) (Nat.le_refl _) (fun r t_twisting_values H locs ls pc hP hD hS hz hk hd => W.zret (v := r) B.exec B.bytes B.returns hz.n (fun t ht hW => ⟨⟨r, t_twisting_values, rfl, hk, by rw [ht]; exact hP, va_K.moved hW.alike hK, hD⟩, hS.F ht⟩) hS.2.2 hd) hP hD h

abbrev w_X10_twisted (Y : Nat → ClassId) (h_t : Nat) (B_t : Nat → Nat) (B_t_current : Nat → Nat) (B_t_twisting : Nat → Nat) (t_toldCount : Int32) (t_current_n : Int32) (t_twisting_modulus : Int32) (t_twisting_values : Nat → Int32) : va_W := [(h_t, .inr (9, [.ref (B_t 0), .ref (B_t 1), .ref (B_t 2), .ref (B_t 3), .ref (B_t 4), .ref (B_t 5), .ref (B_t 6), .ref (B_t 7), .ref (B_t 8), .ref (B_t 9), .ref (B_t 10), .ref (B_t 11), .ref (B_t 12), .ref (B_t 13), .int t_toldCount])), ((B_t 0), .inr (6, [.ref (B_t_current 0), .int t_current_n])), ((B_t 4), .inr (8, [.ref (B_t_twisting 0), .int t_twisting_modulus])), ((B_t_twisting 0), .inl (Y 0, 64, .inl t_twisting_values))]

set_option maxHeartbeats 4000000 in
set_option maxRecDepth 100000 in
theorem wk_X10_twisted {p : Program} {l : Launch} {e : Env} {R : Room} {s : State} {m : MethodId} {args : Array Value} {below : List Frame} {meth : Method} {c : Code} {Q : State → Prop} {G : va_G} {Y : Nat → ClassId} {tF : Nat} {A : Nat → Prop} (h_t : Nat) (B_t : Nat → Nat) (B_t_current : Nat → Nat) (B_t_twisting : Nat → Nat) (t_toldCount : Int32) (t_current_n : Int32) (t_twisting_modulus : Int32) (t_twisting_values : Nat → Int32) (x1 : Int32) (x2 : Int32) {K : Int32 → Prop} (hx : p.tables.exec = Jvm.exec) (hb : c.code = cX10_twisted) (hml : c.maxLocals = 3) (hown : s.vm.findClass RX10 = some m.cls) (hts : ∀ w ∈ wsX10_twisted, w.before args s = true) (hK : va_K G vwCl (tyL Y) s) (hE : Ev A tF s) (hA : ∀ q, s.heap.size ≤ q → A q) (hRf : 1 ≤ R.frames) (hRl : 22 ≤ R.locals) (hret : ∀ (r : Int32)  (H : Heap) (locs : List Loc) (ls : Array Slot) (pc : Nat), va_P G vwCl (w_X10_twisted Y h_t B_t B_t_current B_t_twisting t_toldCount t_current_n t_twisting_modulus t_twisting_values) H → va_D A (w_X10_twisted Y h_t B_t B_t_current B_t_twisting t_toldCount t_current_n t_twisting_modulus t_twisting_values) → va_S A s.heap H locs → K r → decode cX10_twisted pc = .ok (.ireturn, 1) → W p l e R s m args below meth c H locs 0 0 Q (F0 m pc ls [.int r])) (hP : va_P G vwCl (w_X10_twisted Y h_t B_t B_t_current B_t_twisting t_toldCount t_current_n t_twisting_modulus t_twisting_values) s.heap) (hD : va_D A (w_X10_twisted Y h_t B_t B_t_current B_t_twisting t_toldCount t_current_n t_twisting_modulus t_twisting_values)) (h : pX10_twisted t_current_n t_twisting_values x1 x2 K) : W p l e R s m args below meth c s.heap [] 0 0 Q (entryFrame m ([.ref h_t, .int x1, .int x2] : List Value).toArray 3) := by
  have inX10 : ∀ w ∈ u_ws RX10 TX10 15, w ∈ wsX10_twisted := by decide +kernel
  have hf14 := hts (.fieldLink RX10 14 "RackBench" "current" "LRackBench$Table;") (by decide +kernel)
  have hf31 := hts (.fieldLink RX10 31 "RackBench" "twisting" "LRackBench$Twist;") (by decide +kernel)
  have hl := lv_entry ([.ref h_t, .int x1, .int x2]) (n := 3) (Nat.le_of_ble_eq_true rfl)
  rw [lg_entry_eq]
  generalize (lg_sl ([.ref h_t, .int x1, .int x2]) ++ List.replicate (3 - (lg_sl ([.ref h_t, .int x1, .int x2])).length) Slot.unset).toArray = ls at hl ⊢
  have hl : lv_has ls 3 [(0, .ref h_t), (1, .int x1), (2, .int x2)] := hl
  generalize hH0 : s.heap = H at hP ⊢
  have hS : va_S A s.heap H [] := by rw [← hH0]; exact va_S.rf
  clear hH0
  generalize ([] : List Loc) = locs at hS ⊢
  have J34 : ∀  (H : Heap) (locs : List Loc) (ls : Array Slot), pX10_twisted_34 t_current_n t_twisting_values K → va_P G vwCl (w_X10_twisted Y h_t B_t B_t_current B_t_twisting t_toldCount t_current_n t_twisting_modulus t_twisting_values) H → va_D A (w_X10_twisted Y h_t B_t B_t_current B_t_twisting t_toldCount t_current_n t_twisting_modulus t_twisting_values) → va_S A s.heap H locs → lv_has ls 3 [] → W p l e R s m args below meth c H locs 0 0 Q (F0 m 34 ls []) := by
    intro  H locs ls h hP hD hS hl
    refine lv_iconst (v := -1) hx hb dX10_twisted_34 (by decide) ?_
    exact hret (-1 : Int32)  H locs ls _ hP hD hS h dX10_twisted_35
  refine lv_aload_n hx hb dX10_twisted_0 rfl (lv_at hl 0 rfl) ?_
  refine va_get (D := G) (ci := 9) (v := .ref (B_t 0)) (C := RX10) (T := TX10) (N := 15) hx hb hts inX10 hown hK hP 0 rfl rfl 0 (by decide) hf14 (fun _ h9 => h9) rfl dX10_twisted_1 ?_
  refine lv_iload_n hx hb dX10_twisted_4 rfl (lv_at hl 1 rfl) ?_
  refine mc_iV ⟨hx, hb, hml, hown, hts⟩ hK hE hA hP hD hS (c_X7_has l G Y tF H.size (B_t 0) B_t_current t_current_n x1 h) (cwV 1 hts gX10_twisted_X7_has rfl rfl rfl (by decide +kernel) ⟨Nat.le_trans (by decide) hRf, Nat.le_trans (by decide) hRl⟩) (fun u => (w_X10_twisted Y h_t B_t B_t_current B_t_twisting t_toldCount t_current_n t_twisting_modulus t_twisting_values)) [1] [0, 2, 3] [0, 3, 1, 2] rfl rfl rfl rfl (by decide) (fun _ => rfl) rfl 1 6 rfl rfl rfl rfl hl.1 rfl (Nat.le_of_ble_eq_true rfl) dX10_twisted_5 (fun r5 u H locs h hP hD hS => ?_)
  try dsimp only at h
  have hP : va_P G vwCl (w_X10_twisted Y h_t B_t B_t_current B_t_twisting t_toldCount t_current_n t_twisting_modulus t_twisting_values) H := hP
  have hD : va_D A (w_X10_twisted Y h_t B_t B_t_current B_t_twisting t_toldCount t_current_n t_twisting_modulus t_twisting_values) := hD
  obtain ⟨ht, hf⟩ := h
  refine lv_if_eq (tgt := 34) hx hb dX10_twisted_8 (by decide) (fun c9 => ?_) (fun c9 => ?_)
  · have h := ht c9
    exact J34  H locs ls h hP hD hS (lv_sub hl [] rfl)
  · have h := hf c9
    refine lv_aload_n hx hb dX10_twisted_11 rfl (lv_at hl 0 rfl) ?_
    refine va_get (D := G) (ci := 9) (v := .ref (B_t 0)) (C := RX10) (T := TX10) (N := 15) hx hb hts inX10 hown hK hP 0 rfl rfl 0 (by decide) hf14 (fun _ h9 => h9) rfl dX10_twisted_12 ?_
    refine lv_iload_n hx hb dX10_twisted_15 rfl (lv_at hl 2 rfl) ?_
    refine mc_iV ⟨hx, hb, hml, hown, hts⟩ hK hE hA hP hD hS (c_X7_has l G Y tF H.size (B_t 0) B_t_current t_current_n x2 h) (cwV 1 hts gX10_twisted_X7_has rfl rfl rfl (by decide +kernel) ⟨Nat.le_trans (by decide) hRf, Nat.le_trans (by decide) hRl⟩) (fun u => (w_X10_twisted Y h_t B_t B_t_current B_t_twisting t_toldCount t_current_n t_twisting_modulus t_twisting_values)) [1] [0, 2, 3] [0, 3, 1, 2] rfl rfl rfl rfl (by decide) (fun _ => rfl) rfl 1 6 rfl rfl rfl rfl hl.1 rfl (Nat.le_of_ble_eq_true rfl) dX10_twisted_16 (fun r16 u H locs h hP hD hS => ?_)
    try dsimp only at h
    have hP : va_P G vwCl (w_X10_twisted Y h_t B_t B_t_current B_t_twisting t_toldCount t_current_n t_twisting_modulus t_twisting_values) H := hP
    have hD : va_D A (w_X10_twisted Y h_t B_t B_t_current B_t_twisting t_toldCount t_current_n t_twisting_modulus t_twisting_values) := hD
    obtain ⟨ht, hf⟩ := h
    refine lv_if_eq (tgt := 34) hx hb dX10_twisted_19 (by decide) (fun c9 => ?_) (fun c9 => ?_)
    · have h := ht c9
      exact J34  H locs ls h hP hD hS (lv_sub hl [] rfl)
    · have h := hf c9
      refine lv_aload_n hx hb dX10_twisted_22 rfl (lv_at hl 0 rfl) ?_
      refine va_get (D := G) (ci := 9) (v := .ref (B_t 4)) (C := RX10) (T := TX10) (N := 15) hx hb hts inX10 hown hK hP 0 rfl rfl 4 (by decide) hf31 (fun _ h9 => h9) rfl dX10_twisted_23 ?_
      refine lv_iload_n hx hb dX10_twisted_26 rfl (lv_at hl 1 rfl) ?_
      refine lv_iload_n hx hb dX10_twisted_27 rfl (lv_at hl 2 rfl) ?_
      refine mc_iV ⟨hx, hb, hml, hown, hts⟩ hK hE hA hP hD hS (c_X9_value l G Y tF H.size (B_t 4) B_t_twisting t_twisting_modulus t_twisting_values x1 x2 h) (cwV 2 hts gX10_twisted_X9_value rfl rfl rfl (by decide +kernel) ⟨Nat.le_trans (by decide) hRf, Nat.le_trans (by decide) hRl⟩) (fun u => (w_X10_twisted Y h_t B_t B_t_current B_t_twisting t_toldCount t_current_n t_twisting_modulus t_twisting_values)) [2, 3] [0, 1] [0, 1, 2, 3] rfl rfl rfl rfl (by decide) (fun _ => rfl) rfl 2 8 rfl rfl rfl rfl hl.1 rfl (Nat.le_of_ble_eq_true rfl) dX10_twisted_28 (fun r28 u H locs h hP hD hS => ?_)
      try dsimp only at h
      have hP : va_P G vwCl (w_X10_twisted Y h_t B_t B_t_current B_t_twisting t_toldCount t_current_n t_twisting_modulus t_twisting_values) H := hP
      have hD : va_D A (w_X10_twisted Y h_t B_t B_t_current B_t_twisting t_toldCount t_current_n t_twisting_modulus t_twisting_values) := hD
      refine lv_goto (tgt := 35) hx hb dX10_twisted_31 (by decide) ?_
      exact hret r28  H locs ls _ hP hD hS h dX10_twisted_35

set_option maxHeartbeats 4000000 in
set_option maxRecDepth 100000 in
theorem c_X10_twisted (l : Launch) (G : va_G) (Y : Nat → ClassId) (tF sz : Nat) (h_t : Nat) (B_t : Nat → Nat) (B_t_current : Nat → Nat) (B_t_twisting : Nat → Nat) (t_toldCount : Int32) (t_current_n : Int32) (t_twisting_modulus : Int32) (t_twisting_values : Nat → Int32) (x1 : Int32) (x2 : Int32) {K : Int32 → Prop} (h : pX10_twisted t_current_n t_twisting_values x1 x2 K) : Met l yX10_twisted wsX10_twisted ({ frames := 1, cells := 0, slots := 0, locals := 22 }) (PcM G Y tF sz (w_X10_twisted Y h_t B_t B_t_current B_t_twisting t_toldCount t_current_n t_twisting_modulus t_twisting_values) [.ref h_t, .int x1, .int x2]) (va_Qi (fun (r : Int32) (u : Unit) => K r ) (fun u t => BM G Y (va_A (w_X10_twisted Y h_t B_t B_t_current B_t_twisting t_toldCount t_current_n t_twisting_modulus t_twisting_values) sz) (w_X10_twisted Y h_t B_t B_t_current B_t_twisting t_toldCount t_current_n t_twisting_modulus t_twisting_values) t) (va_A (w_X10_twisted Y h_t B_t B_t_current B_t_twisting t_toldCount t_current_n t_twisting_modulus t_twisting_values) sz)) 0 0 (va_A (w_X10_twisted Y h_t B_t B_t_current B_t_twisting t_toldCount t_current_n t_twisting_modulus t_twisting_values) sz) := by
  refine Met.ofW (cc := cX10_twisted) (maxL := 3) (ret := (some .int)) (by decide +kernel) rfl ?_
  intro p e s m args below meth c s₁ B hml hv
  obtain ⟨rfl, hsz, hP, hK, hD0, hE⟩ := hv
  have hts := atoms_spec (ws := wsX10_twisted) B.pre
  have hown : s.vm.findClass RX10 = some m.cls := findClass_of_methodNamed B.named
  have hlocks := B.notSynchronized
  subst hsz
  have hD := hD0.self (sz := s.heap.size)
  exact wk_X10_twisted h_t B_t B_t_current B_t_twisting t_toldCount t_current_n t_twisting_modulus t_twisting_values x1 x2 B.exec B.bytes hml hown hts hK hE (fun q h => Or.inr h) (Nat.le_refl _) (Nat.le_refl _) (fun r  H locs ls pc hP hD hS hk hd => W.iret (v := r) B.exec B.bytes B.returns (fun t ht hW => ⟨⟨r, (), rfl, hk, by rw [ht]; exact hP, va_K.moved hW.alike hK, hD⟩, hS.F ht⟩) hS.2.2 hd) hP hD h

abbrev w_X10_closed (Y : Nat → ClassId) (h_t : Nat) (B_t : Nat → Nat) (B_t_current : Nat → Nat) (B_t_twisting : Nat → Nat) (t_toldCount : Int32) (t_current_n : Int32) (t_current_cells : Nat → Int32) (t_told : Nat → Int32) (t_twisting_modulus : Int32) (t_twisting_values : Nat → Int32) : va_W := [(h_t, .inr (9, [.ref (B_t 0), .ref (B_t 1), .ref (B_t 2), .ref (B_t 3), .ref (B_t 4), .ref (B_t 5), .ref (B_t 6), .ref (B_t 7), .ref (B_t 8), .ref (B_t 9), .ref (B_t 10), .ref (B_t 11), .ref (B_t 12), .ref (B_t 13), .int t_toldCount])), ((B_t 0), .inr (6, [.ref (B_t_current 0), .int t_current_n])), ((B_t_current 0), .inl (Y 0, 64, .inl t_current_cells)), ((B_t 13), .inl (Y 0, 8, .inl t_told)), ((B_t 4), .inr (8, [.ref (B_t_twisting 0), .int t_twisting_modulus])), ((B_t_twisting 0), .inl (Y 0, 64, .inl t_twisting_values))]

set_option maxHeartbeats 4000000 in
set_option maxRecDepth 100000 in
theorem wk_X10_closed {p : Program} {l : Launch} {e : Env} {R : Room} {s : State} {m : MethodId} {args : Array Value} {below : List Frame} {meth : Method} {c : Code} {Q : State → Prop} {G : va_G} {Y : Nat → ClassId} {tF : Nat} {A : Nat → Prop} (h_t : Nat) (B_t : Nat → Nat) (B_t_current : Nat → Nat) (B_t_twisting : Nat → Nat) (t_toldCount : Int32) (t_current_n : Int32) (t_current_cells : Nat → Int32) (t_told : Nat → Int32) (t_twisting_modulus : Int32) (t_twisting_values : Nat → Int32) {K : Int32 → Int32 → (Nat → Int32) → Prop} (hx : p.tables.exec = Jvm.exec) (hb : c.code = cX10_closed) (hml : c.maxLocals = 2) (hown : s.vm.findClass RX10 = some m.cls) (hts : ∀ w ∈ wsX10_closed, w.before args s = true) (hK : va_K G vwCl (tyL Y) s) (hE : Ev A tF s) (hA : ∀ q, s.heap.size ≤ q → A q) (hRf : 3 ≤ R.frames) (hRl : 66 ≤ R.locals) (hret : ∀ (r : Int32) (t_toldCount : Int32) (t_told : Nat → Int32) (H : Heap) (locs : List Loc) (ls : Array Slot) (pc : Nat), va_P G vwCl (w_X10_closed Y h_t B_t B_t_current B_t_twisting t_toldCount t_current_n t_current_cells t_told t_twisting_modulus t_twisting_values) H → va_D A (w_X10_closed Y h_t B_t B_t_current B_t_twisting t_toldCount t_current_n t_current_cells t_told t_twisting_modulus t_twisting_values) → va_S A s.heap H locs → K r t_toldCount t_told → decode cX10_closed pc = .ok (.ireturn, 1) → W p l e R s m args below meth c H locs 0 0 Q (F0 m pc ls [.int r])) (hP : va_P G vwCl (w_X10_closed Y h_t B_t B_t_current B_t_twisting t_toldCount t_current_n t_current_cells t_told t_twisting_modulus t_twisting_values) s.heap) (hD : va_D A (w_X10_closed Y h_t B_t B_t_current B_t_twisting t_toldCount t_current_n t_current_cells t_told t_twisting_modulus t_twisting_values)) (h : pX10_closed t_toldCount t_current_n t_current_cells t_told t_twisting_modulus t_twisting_values K) : W p l e R s m args below meth c s.heap [] 0 0 Q (entryFrame m ([.ref h_t] : List Value).toArray 2) := by
  have inX10 : ∀ w ∈ u_ws RX10 TX10 15, w ∈ wsX10_closed := by decide +kernel
  have hf14 := hts (.fieldLink RX10 14 "RackBench" "current" "LRackBench$Table;") (by decide +kernel)
  have hf31 := hts (.fieldLink RX10 31 "RackBench" "twisting" "LRackBench$Twist;") (by decide +kernel)
  have hl := lv_entry ([.ref h_t]) (n := 2) (Nat.le_of_ble_eq_true rfl)
  rw [lg_entry_eq]
  generalize (lg_sl ([.ref h_t]) ++ List.replicate (2 - (lg_sl ([.ref h_t])).length) Slot.unset).toArray = ls at hl ⊢
  have hl : lv_has ls 2 [(0, .ref h_t)] := hl
  generalize hH0 : s.heap = H at hP ⊢
  have hS : va_S A s.heap H [] := by rw [← hH0]; exact va_S.rf
  clear hH0
  generalize ([] : List Loc) = locs at hS ⊢
  refine lv_aload_n hx hb dX10_closed_0 rfl (lv_at hl 0 rfl) ?_
  refine va_get (D := G) (ci := 9) (v := .ref (B_t 0)) (C := RX10) (T := TX10) (N := 15) hx hb hts inX10 hown hK hP 0 rfl rfl 0 (by decide) hf14 (fun _ h9 => h9) rfl dX10_closed_1 ?_
  refine mc_iV ⟨hx, hb, hml, hown, hts⟩ hK hE hA hP hD hS (c_X7_isRack l G Y tF H.size (B_t 0) B_t_current t_current_n t_current_cells h) (cwV 0 hts gX10_closed_X7_isRack rfl rfl rfl (by decide +kernel) ⟨Nat.le_trans (by decide) hRf, Nat.le_trans (by decide) hRl⟩) (fun u => (w_X10_closed Y h_t B_t B_t_current B_t_twisting t_toldCount t_current_n t_current_cells t_told t_twisting_modulus t_twisting_values)) [1, 2] [0, 3, 4, 5] [0, 4, 5, 1, 2, 3] rfl rfl rfl rfl (by decide) (fun _ => rfl) rfl 1 6 rfl rfl rfl rfl hl.1 rfl (Nat.le_of_ble_eq_true rfl) dX10_closed_4 (fun r4 u H locs h hP hD hS => ?_)
  try dsimp only at h
  have hP : va_P G vwCl (w_X10_closed Y h_t B_t B_t_current B_t_twisting t_toldCount t_current_n t_current_cells t_told t_twisting_modulus t_twisting_values) H := hP
  have hD : va_D A (w_X10_closed Y h_t B_t B_t_current B_t_twisting t_toldCount t_current_n t_current_cells t_told t_twisting_modulus t_twisting_values) := hD
  obtain ⟨ht, hf⟩ := h
  refine lv_if_ne (tgt := 12) hx hb dX10_closed_7 (by decide) (fun c9 => ?_) (fun c9 => ?_)
  · have h := ht c9
    refine lv_aload_n hx hb dX10_closed_12 rfl (lv_at hl 0 rfl) ?_
    refine va_get (D := G) (ci := 9) (v := .ref (B_t 4)) (C := RX10) (T := TX10) (N := 15) hx hb hts inX10 hown hK hP 0 rfl rfl 4 (by decide) hf31 (fun _ h9 => h9) rfl dX10_closed_13 ?_
    refine lv_aload_n hx hb dX10_closed_16 rfl (lv_at hl 0 rfl) ?_
    refine va_get (D := G) (ci := 9) (v := .ref (B_t 0)) (C := RX10) (T := TX10) (N := 15) hx hb hts inX10 hown hK hP 0 rfl rfl 0 (by decide) hf14 (fun _ h9 => h9) rfl dX10_closed_17 ?_
    refine mc_iV ⟨hx, hb, hml, hown, hts⟩ hK hE hA hP hD hS (c_X9_firstOpenTriple l G Y tF H.size (B_t 4) (B_t 0) B_t_twisting B_t_current t_twisting_modulus t_twisting_values t_current_n t_current_cells h) (cwV 1 hts gX10_closed_X9_firstOpenTriple rfl rfl rfl (by decide +kernel) ⟨Nat.le_trans (by decide) hRf, Nat.le_trans (by decide) hRl⟩) (fun u => (w_X10_closed Y h_t B_t B_t_current B_t_twisting t_toldCount t_current_n t_current_cells t_told t_twisting_modulus t_twisting_values)) [4, 5, 1, 2] [0, 3] [0, 4, 5, 1, 2, 3] rfl rfl rfl rfl (by decide) (fun _ => rfl) rfl 4 8 rfl rfl rfl rfl hl.1 rfl (Nat.le_of_ble_eq_true rfl) dX10_closed_20 (fun r20 u H locs h hP hD hS => ?_)
    try dsimp only at h
    have hP : va_P G vwCl (w_X10_closed Y h_t B_t B_t_current B_t_twisting t_toldCount t_current_n t_current_cells t_told t_twisting_modulus t_twisting_values) H := hP
    have hD : va_D A (w_X10_closed Y h_t B_t B_t_current B_t_twisting t_toldCount t_current_n t_current_cells t_told t_twisting_modulus t_twisting_values) := hD
    refine lv_istore_n (lv' := [(1, .int r20), (0, .ref h_t)]) hx hb dX10_closed_23 rfl hl (by decide) rfl (fun ls hl => ?_)
    refine lv_iload_n hx hb dX10_closed_24 rfl (lv_at hl 0 rfl) ?_
    refine lv_iconst (v := -1) hx hb dX10_closed_25 (by decide) ?_
    obtain ⟨ht, hf⟩ := h
    refine lv_icmp_ne (tgt := 31) hx hb dX10_closed_26 (by decide) (fun c9 => ?_) (fun c9 => ?_)
    · have h := ht c9
      refine lv_aload_n hx hb dX10_closed_31 rfl (lv_at hl 1 rfl) ?_
      refine lv_iload_n hx hb dX10_closed_32 rfl (lv_at hl 0 rfl) ?_
      refine mc_vV ⟨hx, hb, hml, hown, hts⟩ hK hE hA hP hD hS (c_X10_tellTriple l G Y tF H.size h_t B_t t_toldCount t_told r20 h) (cwV 1 hts gX10_closed_X10_tellTriple rfl rfl rfl (by decide +kernel) ⟨Nat.le_trans (by decide) hRf, Nat.le_trans (by decide) hRl⟩) (fun u => (w_X10_closed Y h_t B_t B_t_current B_t_twisting u.1 t_current_n t_current_cells u.2 t_twisting_modulus t_twisting_values)) [0, 3] [1, 2, 4, 5] [4, 0, 1, 5, 2, 3] rfl rfl rfl rfl (by decide) (fun _ => rfl) rfl 0 9 rfl rfl rfl rfl hl.1 rfl (Nat.le_of_ble_eq_true rfl) dX10_closed_33 (fun u H locs h hP hD hS => ?_)
      obtain ⟨t_toldCount_33, t_told_33⟩ := u
      try dsimp only at h
      have hP : va_P G vwCl (w_X10_closed Y h_t B_t B_t_current B_t_twisting t_toldCount_33 t_current_n t_current_cells t_told_33 t_twisting_modulus t_twisting_values) H := hP
      have hD : va_D A (w_X10_closed Y h_t B_t B_t_current B_t_twisting t_toldCount_33 t_current_n t_current_cells t_told_33 t_twisting_modulus t_twisting_values) := hD
      refine lv_iconst (v := 1) hx hb dX10_closed_36 (by decide) ?_
      exact hret (1 : Int32) t_toldCount_33 t_told_33 H locs ls _ hP hD hS h dX10_closed_37
    · have h := hf c9
      refine lv_iconst (v := 0) hx hb dX10_closed_29 (by decide) ?_
      exact hret (0 : Int32) t_toldCount t_told H locs ls _ hP hD hS h dX10_closed_30
  · have h := hf c9
    refine lv_iconst (v := -1) hx hb dX10_closed_10 (by decide) ?_
    exact hret (-1 : Int32) t_toldCount t_told H locs ls _ hP hD hS h dX10_closed_11

set_option maxHeartbeats 4000000 in
set_option maxRecDepth 100000 in
theorem c_X10_closed (l : Launch) (G : va_G) (Y : Nat → ClassId) (tF sz : Nat) (h_t : Nat) (B_t : Nat → Nat) (B_t_current : Nat → Nat) (B_t_twisting : Nat → Nat) (t_toldCount : Int32) (t_current_n : Int32) (t_current_cells : Nat → Int32) (t_told : Nat → Int32) (t_twisting_modulus : Int32) (t_twisting_values : Nat → Int32) {K : Int32 → Int32 → (Nat → Int32) → Prop} (h : pX10_closed t_toldCount t_current_n t_current_cells t_told t_twisting_modulus t_twisting_values K) : Met l yX10_closed wsX10_closed ({ frames := 3, cells := 0, slots := 0, locals := 66 }) (PcM G Y tF sz (w_X10_closed Y h_t B_t B_t_current B_t_twisting t_toldCount t_current_n t_current_cells t_told t_twisting_modulus t_twisting_values) [.ref h_t]) (va_Qi (fun (r : Int32) (u : Int32 × (Nat → Int32)) => K r u.1 u.2) (fun u t => BM G Y (va_A (w_X10_closed Y h_t B_t B_t_current B_t_twisting t_toldCount t_current_n t_current_cells t_told t_twisting_modulus t_twisting_values) sz) (w_X10_closed Y h_t B_t B_t_current B_t_twisting u.1 t_current_n t_current_cells u.2 t_twisting_modulus t_twisting_values) t) (va_A (w_X10_closed Y h_t B_t B_t_current B_t_twisting t_toldCount t_current_n t_current_cells t_told t_twisting_modulus t_twisting_values) sz)) 0 0 (va_A (w_X10_closed Y h_t B_t B_t_current B_t_twisting t_toldCount t_current_n t_current_cells t_told t_twisting_modulus t_twisting_values) sz) := by
  refine Met.ofW (cc := cX10_closed) (maxL := 2) (ret := (some .int)) (by decide +kernel) rfl ?_
  intro p e s m args below meth c s₁ B hml hv
  obtain ⟨rfl, hsz, hP, hK, hD0, hE⟩ := hv
  have hts := atoms_spec (ws := wsX10_closed) B.pre
  have hown : s.vm.findClass RX10 = some m.cls := findClass_of_methodNamed B.named
  have hlocks := B.notSynchronized
  subst hsz
  have hD := hD0.self (sz := s.heap.size)
  exact wk_X10_closed h_t B_t B_t_current B_t_twisting t_toldCount t_current_n t_current_cells t_told t_twisting_modulus t_twisting_values B.exec B.bytes hml hown hts hK hE (fun q h => Or.inr h) (Nat.le_refl _) (Nat.le_refl _) (fun r t_toldCount t_told H locs ls pc hP hD hS hk hd => W.iret (v := r) B.exec B.bytes B.returns (fun t ht hW => ⟨⟨r, (t_toldCount, t_told), rfl, hk, by rw [ht]; exact hP, va_K.moved hW.alike hK, hD⟩, hS.F ht⟩) hS.2.2 hd) hP hD h

abbrev w_X10_cover (Y : Nat → ClassId) (h_t : Nat) (B_t : Nat → Nat) (B_t_current : Nat → Nat) (B_t_draft : Nat → Nat) (B_t_twisting : Nat → Nat) (t_toldCount : Int32) (t_current_n : Int32) (t_current_cells : Nat → Int32) (t_draft_n : Int32) (t_draft_cells : Nat → Int32) (t_twisting_modulus : Int32) (t_twisting_values : Nat → Int32) : va_W := [(h_t, .inr (9, [.ref (B_t 0), .ref (B_t 1), .ref (B_t 2), .ref (B_t 3), .ref (B_t 4), .ref (B_t 5), .ref (B_t 6), .ref (B_t 7), .ref (B_t 8), .ref (B_t 9), .ref (B_t 10), .ref (B_t 11), .ref (B_t 12), .ref (B_t 13), .int t_toldCount])), ((B_t 0), .inr (6, [.ref (B_t_current 0), .int t_current_n])), ((B_t_current 0), .inl (Y 0, 64, .inl t_current_cells)), ((B_t 1), .inr (6, [.ref (B_t_draft 0), .int t_draft_n])), ((B_t_draft 0), .inl (Y 0, 64, .inl t_draft_cells)), ((B_t 4), .inr (8, [.ref (B_t_twisting 0), .int t_twisting_modulus])), ((B_t_twisting 0), .inl (Y 0, 64, .inl t_twisting_values))]

set_option maxHeartbeats 4000000 in
set_option maxRecDepth 100000 in
theorem wk_X10_cover {p : Program} {l : Launch} {e : Env} {R : Room} {s : State} {m : MethodId} {args : Array Value} {below : List Frame} {meth : Method} {c : Code} {Q : State → Prop} {G : va_G} {Y : Nat → ClassId} {tF : Nat} {A : Nat → Prop} (h_t : Nat) (B_t : Nat → Nat) (B_t_current : Nat → Nat) (B_t_draft : Nat → Nat) (B_t_twisting : Nat → Nat) (t_toldCount : Int32) (t_current_n : Int32) (t_current_cells : Nat → Int32) (t_draft_n : Int32) (t_draft_cells : Nat → Int32) (t_twisting_modulus : Int32) (t_twisting_values : Nat → Int32) {K : Int32 → Int32 → (Nat → Int32) → Int32 → (Nat → Int32) → (Nat → Int32) → Prop} (hx : p.tables.exec = Jvm.exec) (hb : c.code = cX10_cover) (hml : c.maxLocals = 6) (hown : s.vm.findClass RX10 = some m.cls) (hts : ∀ w ∈ wsX10_cover, w.before args s = true) (hK : va_K G vwCl (tyL Y) s) (hE : Ev A tF s) (hA : ∀ q, s.heap.size ≤ q → A q) (hRf : 3 ≤ R.frames) (hRl : 105 ≤ R.locals) (hret : ∀ (r : Int32) (t_current_n : Int32) (t_current_cells : Nat → Int32) (t_draft_n : Int32) (t_draft_cells : Nat → Int32) (t_twisting_values : Nat → Int32) (H : Heap) (locs : List Loc) (ls : Array Slot) (pc : Nat), va_P G vwCl (w_X10_cover Y h_t B_t B_t_current B_t_draft B_t_twisting t_toldCount t_current_n t_current_cells t_draft_n t_draft_cells t_twisting_modulus t_twisting_values) H → va_D A (w_X10_cover Y h_t B_t B_t_current B_t_draft B_t_twisting t_toldCount t_current_n t_current_cells t_draft_n t_draft_cells t_twisting_modulus t_twisting_values) → va_S A s.heap H locs → K r t_current_n t_current_cells t_draft_n t_draft_cells t_twisting_values → decode cX10_cover pc = .ok (.ireturn, 1) → W p l e R s m args below meth c H locs 0 0 Q (F0 m pc ls [.int r])) (hP : va_P G vwCl (w_X10_cover Y h_t B_t B_t_current B_t_draft B_t_twisting t_toldCount t_current_n t_current_cells t_draft_n t_draft_cells t_twisting_modulus t_twisting_values) s.heap) (hD : va_D A (w_X10_cover Y h_t B_t B_t_current B_t_draft B_t_twisting t_toldCount t_current_n t_current_cells t_draft_n t_draft_cells t_twisting_modulus t_twisting_values)) (h : pX10_cover t_current_n t_current_cells t_draft_n t_draft_cells t_twisting_modulus t_twisting_values K) : W p l e R s m args below meth c s.heap [] 0 0 Q (entryFrame m ([.ref h_t] : List Value).toArray 6) := by
  have inX10 : ∀ w ∈ u_ws RX10 TX10 15, w ∈ wsX10_cover := by decide +kernel
  have inX7 : ∀ w ∈ u_ws RX7 TX7 2, w ∈ wsX10_cover := by decide +kernel
  have inX9 : ∀ w ∈ u_ws RX9 TX9 2, w ∈ wsX10_cover := by decide +kernel
  have hf14 := hts (.fieldLink RX10 14 "RackBench" "current" "LRackBench$Table;") (by decide +kernel)
  have hf18 := hts (.fieldLink RX10 18 "RackBench" "draft" "LRackBench$Table;") (by decide +kernel)
  have hf31 := hts (.fieldLink RX10 31 "RackBench" "twisting" "LRackBench$Twist;") (by decide +kernel)
  have hl := lv_entry ([.ref h_t]) (n := 6) (Nat.le_of_ble_eq_true rfl)
  rw [lg_entry_eq]
  generalize (lg_sl ([.ref h_t]) ++ List.replicate (6 - (lg_sl ([.ref h_t])).length) Slot.unset).toArray = ls at hl ⊢
  have hl : lv_has ls 6 [(0, .ref h_t)] := hl
  generalize hH0 : s.heap = H at hP ⊢
  have hS : va_S A s.heap H [] := by rw [← hH0]; exact va_S.rf
  clear hH0
  generalize ([] : List Loc) = locs at hS ⊢
  refine lv_aload_n hx hb dX10_cover_0 rfl (lv_at hl 0 rfl) ?_
  refine va_get (D := G) (ci := 9) (v := .ref (B_t 4)) (C := RX10) (T := TX10) (N := 15) hx hb hts inX10 hown hK hP 0 rfl rfl 4 (by decide) hf31 (fun _ h9 => h9) rfl dX10_cover_1 ?_
  refine va_getN (D := G) (ci := 8) (v := .int t_twisting_modulus) (C := RX9) (T := TX9) (N := 2) hx hb hts inX9 hown hK hP 5 rfl rfl 1 (by decide) (hE.nest args 1 _ rfl) (fun _ h9 => h9) rfl dX10_cover_4 ?_
  refine lv_istore_n (lv' := [(1, .int t_twisting_modulus), (0, .ref h_t)]) hx hb dX10_cover_7 rfl hl (by decide) rfl (fun ls hl => ?_)
  refine lv_aload_n hx hb dX10_cover_8 rfl (lv_at hl 1 rfl) ?_
  refine va_get (D := G) (ci := 9) (v := .ref (B_t 0)) (C := RX10) (T := TX10) (N := 15) hx hb hts inX10 hown hK hP 0 rfl rfl 0 (by decide) hf14 (fun _ h9 => h9) rfl dX10_cover_9 ?_
  refine va_getN (D := G) (ci := 6) (v := .int t_current_n) (C := RX7) (T := TX7) (N := 2) hx hb hts inX7 hown hK hP 1 rfl rfl 1 (by decide) (hE.nest args 0 _ rfl) (fun _ h9 => h9) rfl dX10_cover_12 ?_
  refine lv_iload_n hx hb dX10_cover_15 rfl (lv_at hl 0 rfl) ?_
  refine lv_imul hx hb dX10_cover_16 ?_
  refine lv_bipush (v := 8) hx hb dX10_cover_17 (by decide) ?_
  obtain ⟨ht, hf⟩ := h
  refine lv_icmp_gt (tgt := 47) hx hb dX10_cover_19 (by decide) (fun c9 => ?_) (fun c9 => ?_)
  · have h := ht c9
    refine lv_iconst (v := -1) hx hb dX10_cover_47 (by decide) ?_
    exact hret (-1 : Int32) t_current_n t_current_cells t_draft_n t_draft_cells t_twisting_values H locs ls _ hP hD hS h dX10_cover_48
  · have h := hf c9
    refine lv_aload_n hx hb dX10_cover_22 rfl (lv_at hl 1 rfl) ?_
    refine va_get (D := G) (ci := 9) (v := .ref (B_t 0)) (C := RX10) (T := TX10) (N := 15) hx hb hts inX10 hown hK hP 0 rfl rfl 0 (by decide) hf14 (fun _ h9 => h9) rfl dX10_cover_23 ?_
    refine mc_iV ⟨hx, hb, hml, hown, hts⟩ hK hE hA hP hD hS (c_X7_isRack l G Y tF H.size (B_t 0) B_t_current t_current_n t_current_cells h) (cwV 0 hts gX10_cover_X7_isRack rfl rfl rfl (by decide +kernel) ⟨Nat.le_trans (by decide) hRf, Nat.le_trans (by decide) hRl⟩) (fun u => (w_X10_cover Y h_t B_t B_t_current B_t_draft B_t_twisting t_toldCount t_current_n t_current_cells t_draft_n t_draft_cells t_twisting_modulus t_twisting_values)) [1, 2] [0, 3, 4, 5, 6] [0, 5, 6, 1, 2, 3, 4] rfl rfl rfl rfl (by decide) (fun _ => rfl) rfl 1 6 rfl rfl rfl rfl hl.1 rfl (Nat.le_of_ble_eq_true rfl) dX10_cover_26 (fun r26 u H locs h hP hD hS => ?_)
    try dsimp only at h
    have hP : va_P G vwCl (w_X10_cover Y h_t B_t B_t_current B_t_draft B_t_twisting t_toldCount t_current_n t_current_cells t_draft_n t_draft_cells t_twisting_modulus t_twisting_values) H := hP
    have hD : va_D A (w_X10_cover Y h_t B_t B_t_current B_t_draft B_t_twisting t_toldCount t_current_n t_current_cells t_draft_n t_draft_cells t_twisting_modulus t_twisting_values) := hD
    obtain ⟨ht, hf⟩ := h
    refine lv_if_eq (tgt := 47) hx hb dX10_cover_29 (by decide) (fun c9 => ?_) (fun c9 => ?_)
    · have h := ht c9
      refine lv_iconst (v := -1) hx hb dX10_cover_47 (by decide) ?_
      exact hret (-1 : Int32) t_current_n t_current_cells t_draft_n t_draft_cells t_twisting_values H locs ls _ hP hD hS h dX10_cover_48
    · have h := hf c9
      refine lv_aload_n hx hb dX10_cover_32 rfl (lv_at hl 1 rfl) ?_
      refine va_get (D := G) (ci := 9) (v := .ref (B_t 4)) (C := RX10) (T := TX10) (N := 15) hx hb hts inX10 hown hK hP 0 rfl rfl 4 (by decide) hf31 (fun _ h9 => h9) rfl dX10_cover_33 ?_
      refine lv_aload_n hx hb dX10_cover_36 rfl (lv_at hl 1 rfl) ?_
      refine va_get (D := G) (ci := 9) (v := .ref (B_t 0)) (C := RX10) (T := TX10) (N := 15) hx hb hts inX10 hown hK hP 0 rfl rfl 0 (by decide) hf14 (fun _ h9 => h9) rfl dX10_cover_37 ?_
      refine mc_iV ⟨hx, hb, hml, hown, hts⟩ hK hE hA hP hD hS (c_X9_firstOpenTriple l G Y tF H.size (B_t 4) (B_t 0) B_t_twisting B_t_current t_twisting_modulus t_twisting_values t_current_n t_current_cells h) (cwV 1 hts gX10_cover_X9_firstOpenTriple rfl rfl rfl (by decide +kernel) ⟨Nat.le_trans (by decide) hRf, Nat.le_trans (by decide) hRl⟩) (fun u => (w_X10_cover Y h_t B_t B_t_current B_t_draft B_t_twisting t_toldCount t_current_n t_current_cells t_draft_n t_draft_cells t_twisting_modulus t_twisting_values)) [5, 6, 1, 2] [0, 3, 4] [0, 5, 6, 1, 2, 3, 4] rfl rfl rfl rfl (by decide) (fun _ => rfl) rfl 5 8 rfl rfl rfl rfl hl.1 rfl (Nat.le_of_ble_eq_true rfl) dX10_cover_40 (fun r40 u H locs h hP hD hS => ?_)
      try dsimp only at h
      have hP : va_P G vwCl (w_X10_cover Y h_t B_t B_t_current B_t_draft B_t_twisting t_toldCount t_current_n t_current_cells t_draft_n t_draft_cells t_twisting_modulus t_twisting_values) H := hP
      have hD : va_D A (w_X10_cover Y h_t B_t B_t_current B_t_draft B_t_twisting t_toldCount t_current_n t_current_cells t_draft_n t_draft_cells t_twisting_modulus t_twisting_values) := hD
      refine lv_iconst (v := -1) hx hb dX10_cover_43 (by decide) ?_
      obtain ⟨ht, hf⟩ := h
      refine lv_icmp_eq (tgt := 49) hx hb dX10_cover_44 (by decide) (fun c9 => ?_) (fun c9 => ?_)
      · have h := ht c9
        refine lv_aload_n hx hb dX10_cover_49 rfl (lv_at hl 1 rfl) ?_
        refine va_get (D := G) (ci := 9) (v := .ref (B_t 1)) (C := RX10) (T := TX10) (N := 15) hx hb hts inX10 hown hK hP 0 rfl rfl 1 (by decide) hf18 (fun _ h9 => h9) rfl dX10_cover_50 ?_
        refine lv_aload_n hx hb dX10_cover_53 rfl (lv_at hl 1 rfl) ?_
        refine va_get (D := G) (ci := 9) (v := .ref (B_t 0)) (C := RX10) (T := TX10) (N := 15) hx hb hts inX10 hown hK hP 0 rfl rfl 0 (by decide) hf14 (fun _ h9 => h9) rfl dX10_cover_54 ?_
        refine va_getN (D := G) (ci := 6) (v := .int t_current_n) (C := RX7) (T := TX7) (N := 2) hx hb hts inX7 hown hK hP 1 rfl rfl 1 (by decide) (hE.nest args 0 _ rfl) (fun _ h9 => h9) rfl dX10_cover_57 ?_
        refine lv_iload_n hx hb dX10_cover_60 rfl (lv_at hl 0 rfl) ?_
        refine lv_imul hx hb dX10_cover_61 ?_
        refine va_putN (D := G) (ci := 6) (v := .int (t_current_n * t_twisting_modulus)) (ty := .int) (C := RX7) (T := TX7) (N := 2) hx hb hts inX7 tyX7 tyX7_ok nmX7 hown hK hP hD hS 3 rfl rfl 1 (by decide) (hE.nest args 0 _ rfl) (fun _ h9 => h9) rfl (by decide +kernel) rfl rfl (Nat.le_of_ble_eq_true rfl) dX10_cover_62 (fun H locs hP hD hS => ?_)
        have hP : va_P G vwCl (w_X10_cover Y h_t B_t B_t_current B_t_draft B_t_twisting t_toldCount t_current_n t_current_cells (t_current_n * t_twisting_modulus) t_draft_cells t_twisting_modulus t_twisting_values) H := hP
        have hD : va_D A (w_X10_cover Y h_t B_t B_t_current B_t_draft B_t_twisting t_toldCount t_current_n t_current_cells (t_current_n * t_twisting_modulus) t_draft_cells t_twisting_modulus t_twisting_values) := hD
        refine lv_iconst (v := 0) hx hb dX10_cover_65 (by decide) ?_
        refine lv_istore_n (lv' := [(2, .int (0 : Int32)), (1, .int t_twisting_modulus), (0, .ref h_t)]) hx hb dX10_cover_66 rfl hl (by decide) rfl (fun ls hl => ?_)
        obtain ⟨I67, m67, hI67, hB67⟩ := h
        have L67 : ∀ (x1 : Int32) (t_current_n : Int32) (t_current_cells : Nat → Int32) (t_draft_n : Int32) (t_twisting_values : Nat → Int32) (I67 : Int32 → (Nat → Int32) → Prop) (m67 : Int32 → (Nat → Int32) → Nat), (∀ (x2 : Int32) (t_draft_cells : Nat → Int32), I67 x2 t_draft_cells → pX10_cover_67 t_twisting_modulus K x1 t_current_n t_current_cells t_draft_n t_twisting_values x2 t_draft_cells (fun x2' t_draft_cells' => I67 x2' t_draft_cells' ∧ m67 x2' t_draft_cells' < m67 x2 t_draft_cells)) → ∀ (n : Nat) (x2 : Int32) (t_draft_cells : Nat → Int32) (H : Heap) (locs : List Loc) (ls : Array Slot), I67 x2 t_draft_cells → m67 x2 t_draft_cells < n → va_P G vwCl (w_X10_cover Y h_t B_t B_t_current B_t_draft B_t_twisting t_toldCount t_current_n t_current_cells t_draft_n t_draft_cells t_twisting_modulus t_twisting_values) H → va_D A (w_X10_cover Y h_t B_t B_t_current B_t_draft B_t_twisting t_toldCount t_current_n t_current_cells t_draft_n t_draft_cells t_twisting_modulus t_twisting_values) → va_S A s.heap H locs → lv_has ls 6 [(0, .ref h_t), (1, .int x1), (2, .int x2)] → W p l e R s m args below meth c H locs 0 0 Q (F0 m 67 ls []) := by
          intro x1 t_current_n t_current_cells t_draft_n t_twisting_values I67 m67 hB67 n
          induction n with
          | zero => intro x2 t_draft_cells H locs ls _ hm; exact absurd hm (Nat.not_lt_zero _)
          | succ n ih =>
            intro x2 t_draft_cells H locs ls hI hm hP hD hS hl
            obtain ⟨R67, h, rec67⟩ : ∃ R67 : Int32 → (Nat → Int32) → Prop, pX10_cover_67 t_twisting_modulus K x1 t_current_n t_current_cells t_draft_n t_twisting_values x2 t_draft_cells R67 ∧ ∀ (x2 : Int32) (t_draft_cells : Nat → Int32) (H : Heap) (locs : List Loc) (ls : Array Slot), R67 x2 t_draft_cells → va_P G vwCl (w_X10_cover Y h_t B_t B_t_current B_t_draft B_t_twisting t_toldCount t_current_n t_current_cells t_draft_n t_draft_cells t_twisting_modulus t_twisting_values) H → va_D A (w_X10_cover Y h_t B_t B_t_current B_t_draft B_t_twisting t_toldCount t_current_n t_current_cells t_draft_n t_draft_cells t_twisting_modulus t_twisting_values) → va_S A s.heap H locs → lv_has ls 6 [(0, .ref h_t), (1, .int x1), (2, .int x2)] → W p l e R s m args below meth c H locs 0 0 Q (F0 m 67 ls []) := ⟨_, hB67 x2 t_draft_cells hI, fun x2 t_draft_cells H locs ls hh hP hD hS hl => ih x2 t_draft_cells H locs ls hh.1 (Nat.lt_of_lt_of_le hh.2 (Nat.le_of_lt_succ hm)) hP hD hS hl⟩
            refine lv_iload_n hx hb dX10_cover_67 rfl (lv_at hl 2 rfl) ?_
            refine lv_aload_n hx hb dX10_cover_68 rfl (lv_at hl 0 rfl) ?_
            refine va_get (D := G) (ci := 9) (v := .ref (B_t 1)) (C := RX10) (T := TX10) (N := 15) hx hb hts inX10 hown hK hP 0 rfl rfl 1 (by decide) hf18 (fun _ h9 => h9) rfl dX10_cover_69 ?_
            refine va_getN (D := G) (ci := 6) (v := .int t_draft_n) (C := RX7) (T := TX7) (N := 2) hx hb hts inX7 hown hK hP 3 rfl rfl 1 (by decide) (hE.nest args 0 _ rfl) (fun _ h9 => h9) rfl dX10_cover_72 ?_
            obtain ⟨ht, hf⟩ := h
            refine lv_icmp_ge (tgt := 155) hx hb dX10_cover_75 (by decide) (fun c9 => ?_) (fun c9 => ?_)
            · have h := ht c9
              refine lv_aload_n hx hb dX10_cover_155 rfl (lv_at hl 0 rfl) ?_
              refine mc_iV ⟨hx, hb, hml, hown, hts⟩ hK hE hA hP hD hS (c_X10_adoptDraft l G Y tF H.size h_t B_t B_t_current B_t_draft B_t_twisting t_toldCount t_current_n t_current_cells t_draft_n t_draft_cells t_twisting_modulus t_twisting_values h) (cwV 0 hts gX10_cover_X10_adoptDraft rfl rfl rfl (by decide +kernel) ⟨Nat.le_trans (by decide) hRf, Nat.le_trans (by decide) hRl⟩) (fun u => (w_X10_cover Y h_t B_t B_t_current B_t_draft B_t_twisting t_toldCount u.1 u.2.1 t_draft_n t_draft_cells t_twisting_modulus u.2.2)) [0, 1, 2, 3, 4, 5, 6] [] [0, 1, 2, 3, 4, 5, 6] rfl rfl rfl rfl (by decide) (fun _ => rfl) rfl 0 9 rfl rfl rfl rfl hl.1 rfl (Nat.le_of_ble_eq_true rfl) dX10_cover_156 (fun r156 u H locs h hP hD hS => ?_)
              obtain ⟨t_current_n_156, t_current_cells_156, t_twisting_values_156⟩ := u
              try dsimp only at h
              have hP : va_P G vwCl (w_X10_cover Y h_t B_t B_t_current B_t_draft B_t_twisting t_toldCount t_current_n_156 t_current_cells_156 t_draft_n t_draft_cells t_twisting_modulus t_twisting_values_156) H := hP
              have hD : va_D A (w_X10_cover Y h_t B_t B_t_current B_t_draft B_t_twisting t_toldCount t_current_n_156 t_current_cells_156 t_draft_n t_draft_cells t_twisting_modulus t_twisting_values_156) := hD
              exact hret r156 t_current_n_156 t_current_cells_156 t_draft_n t_draft_cells t_twisting_values_156 H locs ls _ hP hD hS h dX10_cover_159
            · have h := hf c9
              refine lv_iload_n hx hb dX10_cover_78 rfl (lv_at hl 2 rfl) ?_
              refine lv_iload_n hx hb dX10_cover_79 rfl (lv_at hl 1 rfl) ?_
              obtain ⟨hne, h⟩ := h
              refine lv_idiv hx hb dX10_cover_80 hne ?_
              refine lv_istore_n (lv' := [(3, .int (x2 / x1)), (0, .ref h_t), (1, .int x1), (2, .int x2)]) hx hb dX10_cover_81 rfl hl (by decide) rfl (fun ls hl => ?_)
              refine lv_iconst (v := 0) hx hb dX10_cover_82 (by decide) ?_
              refine lv_istore (lv' := [(4, .int (0 : Int32)), (3, .int (x2 / x1)), (0, .ref h_t), (1, .int x1), (2, .int x2)]) hx hb dX10_cover_83 hl (by decide) rfl (fun ls hl => ?_)
              obtain ⟨I85, m85, hI85, hB85⟩ := h
              have L85 : ∀ (x2 : Int32) (x3 : Int32) (I85 : Int32 → (Nat → Int32) → Prop) (m85 : Int32 → (Nat → Int32) → Nat), (∀ (x4 : Int32) (t_draft_cells : Nat → Int32), I85 x4 t_draft_cells → pX10_cover_85 t_twisting_modulus R67 K x1 t_current_n t_current_cells t_draft_n t_twisting_values x2 x3 x4 t_draft_cells (fun x4' t_draft_cells' => I85 x4' t_draft_cells' ∧ m85 x4' t_draft_cells' < m85 x4 t_draft_cells)) → ∀ (n : Nat) (x4 : Int32) (t_draft_cells : Nat → Int32) (H : Heap) (locs : List Loc) (ls : Array Slot), I85 x4 t_draft_cells → m85 x4 t_draft_cells < n → va_P G vwCl (w_X10_cover Y h_t B_t B_t_current B_t_draft B_t_twisting t_toldCount t_current_n t_current_cells t_draft_n t_draft_cells t_twisting_modulus t_twisting_values) H → va_D A (w_X10_cover Y h_t B_t B_t_current B_t_draft B_t_twisting t_toldCount t_current_n t_current_cells t_draft_n t_draft_cells t_twisting_modulus t_twisting_values) → va_S A s.heap H locs → lv_has ls 6 [(0, .ref h_t), (1, .int x1), (2, .int x2), (3, .int x3), (4, .int x4)] → W p l e R s m args below meth c H locs 0 0 Q (F0 m 85 ls []) := by
                intro x2 x3 I85 m85 hB85 n
                induction n with
                | zero => intro x4 t_draft_cells H locs ls _ hm; exact absurd hm (Nat.not_lt_zero _)
                | succ n ih =>
                  intro x4 t_draft_cells H locs ls hI hm hP hD hS hl
                  obtain ⟨R85, h, rec85⟩ : ∃ R85 : Int32 → (Nat → Int32) → Prop, pX10_cover_85 t_twisting_modulus R67 K x1 t_current_n t_current_cells t_draft_n t_twisting_values x2 x3 x4 t_draft_cells R85 ∧ ∀ (x4 : Int32) (t_draft_cells : Nat → Int32) (H : Heap) (locs : List Loc) (ls : Array Slot), R85 x4 t_draft_cells → va_P G vwCl (w_X10_cover Y h_t B_t B_t_current B_t_draft B_t_twisting t_toldCount t_current_n t_current_cells t_draft_n t_draft_cells t_twisting_modulus t_twisting_values) H → va_D A (w_X10_cover Y h_t B_t B_t_current B_t_draft B_t_twisting t_toldCount t_current_n t_current_cells t_draft_n t_draft_cells t_twisting_modulus t_twisting_values) → va_S A s.heap H locs → lv_has ls 6 [(0, .ref h_t), (1, .int x1), (2, .int x2), (3, .int x3), (4, .int x4)] → W p l e R s m args below meth c H locs 0 0 Q (F0 m 85 ls []) := ⟨_, hB85 x4 t_draft_cells hI, fun x4 t_draft_cells H locs ls hh hP hD hS hl => ih x4 t_draft_cells H locs ls hh.1 (Nat.lt_of_lt_of_le hh.2 (Nat.le_of_lt_succ hm)) hP hD hS hl⟩
                  refine lv_iload hx hb dX10_cover_85 (lv_at hl 4 rfl) ?_
                  refine lv_aload_n hx hb dX10_cover_87 rfl (lv_at hl 0 rfl) ?_
                  refine va_get (D := G) (ci := 9) (v := .ref (B_t 1)) (C := RX10) (T := TX10) (N := 15) hx hb hts inX10 hown hK hP 0 rfl rfl 1 (by decide) hf18 (fun _ h9 => h9) rfl dX10_cover_88 ?_
                  refine va_getN (D := G) (ci := 6) (v := .int t_draft_n) (C := RX7) (T := TX7) (N := 2) hx hb hts inX7 hown hK hP 3 rfl rfl 1 (by decide) (hE.nest args 0 _ rfl) (fun _ h9 => h9) rfl dX10_cover_91 ?_
                  obtain ⟨ht, hf⟩ := h
                  refine lv_icmp_ge (tgt := 149) hx hb dX10_cover_94 (by decide) (fun c9 => ?_) (fun c9 => ?_)
                  · have h := ht c9
                    refine lv_iinc (v := (x2 + 1)) (lv' := [(2, .int (x2 + 1)), (0, .ref h_t), (1, .int x1), (3, .int x3), (4, .int x4)]) hx hb dX10_cover_149 hl (k := 2) rfl rfl (by decide) rfl (fun ls hl => ?_)
                    refine lv_goto (tgt := 67) hx hb dX10_cover_152 (by decide) ?_
                    exact rec67 (x2 + 1) t_draft_cells H locs ls h hP hD hS (lv_sub hl [1, 2, 0] rfl)
                  · have h := hf c9
                    refine lv_iload hx hb dX10_cover_97 (lv_at hl 4 rfl) ?_
                    refine lv_iload_n hx hb dX10_cover_99 rfl (lv_at hl 1 rfl) ?_
                    obtain ⟨hne, h⟩ := h
                    refine lv_idiv hx hb dX10_cover_100 hne ?_
                    refine lv_istore (lv' := [(5, .int (x4 / x1)), (0, .ref h_t), (1, .int x1), (2, .int x2), (3, .int x3), (4, .int x4)]) hx hb dX10_cover_101 hl (by decide) rfl (fun ls hl => ?_)
                    refine lv_aload_n hx hb dX10_cover_103 rfl (lv_at hl 1 rfl) ?_
                    refine va_get (D := G) (ci := 9) (v := .ref (B_t 1)) (C := RX10) (T := TX10) (N := 15) hx hb hts inX10 hown hK hP 0 rfl rfl 1 (by decide) hf18 (fun _ h9 => h9) rfl dX10_cover_104 ?_
                    refine lv_iload_n hx hb dX10_cover_107 rfl (lv_at hl 3 rfl) ?_
                    refine lv_iload hx hb dX10_cover_108 (lv_at hl 5 rfl) ?_
                    refine lv_iload_n hx hb dX10_cover_110 rfl (lv_at hl 2 rfl) ?_
                    refine lv_aload_n hx hb dX10_cover_111 rfl (lv_at hl 1 rfl) ?_
                    refine va_get (D := G) (ci := 9) (v := .ref (B_t 0)) (C := RX10) (T := TX10) (N := 15) hx hb hts inX10 hown hK hP 0 rfl rfl 0 (by decide) hf14 (fun _ h9 => h9) rfl dX10_cover_112 ?_
                    refine lv_iload_n hx hb dX10_cover_115 rfl (lv_at hl 4 rfl) ?_
                    refine lv_iload hx hb dX10_cover_116 (lv_at hl 0 rfl) ?_
                    refine mc_iV ⟨hx, hb, hml, hown, hts⟩ hK hE hA hP hD hS (c_X7_turned l G Y tF H.size (B_t 0) B_t_current t_current_n t_current_cells x3 (x4 / x1) h) (cwV 2 hts gX10_cover_X7_turned rfl rfl rfl (by decide +kernel) ⟨Nat.le_trans (by decide) hRf, Nat.le_trans (by decide) hRl⟩) (fun u => (w_X10_cover Y h_t B_t B_t_current B_t_draft B_t_twisting t_toldCount t_current_n t_current_cells t_draft_n t_draft_cells t_twisting_modulus t_twisting_values)) [1, 2] [0, 3, 4, 5, 6] [0, 5, 6, 1, 2, 3, 4] rfl rfl rfl rfl (by decide) (fun _ => rfl) rfl 1 6 rfl rfl rfl rfl hl.1 rfl (Nat.le_of_ble_eq_true rfl) dX10_cover_118 (fun r118 u H locs h hP hD hS => ?_)
                    try dsimp only at h
                    have hP : va_P G vwCl (w_X10_cover Y h_t B_t B_t_current B_t_draft B_t_twisting t_toldCount t_current_n t_current_cells t_draft_n t_draft_cells t_twisting_modulus t_twisting_values) H := hP
                    have hD : va_D A (w_X10_cover Y h_t B_t B_t_current B_t_draft B_t_twisting t_toldCount t_current_n t_current_cells t_draft_n t_draft_cells t_twisting_modulus t_twisting_values) := hD
                    refine lv_imul hx hb dX10_cover_121 ?_
                    refine lv_iload hx hb dX10_cover_122 (lv_at hl 5 rfl) ?_
                    refine lv_iload_n hx hb dX10_cover_124 rfl (lv_at hl 2 rfl) ?_
                    obtain ⟨hne, h⟩ := h
                    refine lv_irem hx hb dX10_cover_125 hne ?_
                    refine lv_aload_n hx hb dX10_cover_126 rfl (lv_at hl 1 rfl) ?_
                    refine va_get (D := G) (ci := 9) (v := .ref (B_t 4)) (C := RX10) (T := TX10) (N := 15) hx hb hts inX10 hown hK hP 0 rfl rfl 4 (by decide) hf31 (fun _ h9 => h9) rfl dX10_cover_127 ?_
                    refine lv_iload_n hx hb dX10_cover_130 rfl (lv_at hl 4 rfl) ?_
                    refine lv_iload hx hb dX10_cover_131 (lv_at hl 0 rfl) ?_
                    refine mc_iV ⟨hx, hb, hml, hown, hts⟩ hK hE hA hP hD hS (c_X9_value l G Y tF H.size (B_t 4) B_t_twisting t_twisting_modulus t_twisting_values x3 (x4 / x1) h) (cwV 2 hts gX10_cover_X9_value rfl rfl rfl (by decide +kernel) ⟨Nat.le_trans (by decide) hRf, Nat.le_trans (by decide) hRl⟩) (fun u => (w_X10_cover Y h_t B_t B_t_current B_t_draft B_t_twisting t_toldCount t_current_n t_current_cells t_draft_n t_draft_cells t_twisting_modulus t_twisting_values)) [5, 6] [0, 1, 2, 3, 4] [0, 1, 2, 3, 4, 5, 6] rfl rfl rfl rfl (by decide) (fun _ => rfl) rfl 5 8 rfl rfl rfl rfl hl.1 rfl (Nat.le_of_ble_eq_true rfl) dX10_cover_133 (fun r133 u H locs h hP hD hS => ?_)
                    try dsimp only at h
                    have hP : va_P G vwCl (w_X10_cover Y h_t B_t B_t_current B_t_draft B_t_twisting t_toldCount t_current_n t_current_cells t_draft_n t_draft_cells t_twisting_modulus t_twisting_values) H := hP
                    have hD : va_D A (w_X10_cover Y h_t B_t B_t_current B_t_draft B_t_twisting t_toldCount t_current_n t_current_cells t_draft_n t_draft_cells t_twisting_modulus t_twisting_values) := hD
                    refine lv_iadd hx hb dX10_cover_136 ?_
                    refine lv_iload_n hx hb dX10_cover_137 rfl (lv_at hl 2 rfl) ?_
                    obtain ⟨hne, h⟩ := h
                    refine lv_irem hx hb dX10_cover_138 hne ?_
                    refine lv_iadd hx hb dX10_cover_139 ?_
                    refine mc_vV ⟨hx, hb, hml, hown, hts⟩ hK hE hA hP hD hS (c_X7_put l G Y tF H.size (B_t 1) B_t_draft t_draft_n t_draft_cells x2 x4 ((x1 * r118) + (((x4 - x4 / x1 * x1) + r133) - ((x4 - x4 / x1 * x1) + r133) / x1 * x1)) h) (cwV 3 hts gX10_cover_X7_put rfl rfl rfl (by decide +kernel) ⟨Nat.le_trans (by decide) hRf, Nat.le_trans (by decide) hRl⟩) (fun u => (w_X10_cover Y h_t B_t B_t_current B_t_draft B_t_twisting t_toldCount t_current_n t_current_cells t_draft_n u t_twisting_modulus t_twisting_values)) [3, 4] [0, 1, 2, 5, 6] [0, 1, 2, 5, 6, 3, 4] rfl rfl rfl rfl (by decide) (fun _ => rfl) rfl 3 6 rfl rfl rfl rfl hl.1 rfl (Nat.le_of_ble_eq_true rfl) dX10_cover_140 (fun u H locs h hP hD hS => ?_)
                    obtain ⟨t_draft_cells_140, rfl⟩ : ∃ z, z = u := ⟨_, rfl⟩
                    try dsimp only at h
                    have hP : va_P G vwCl (w_X10_cover Y h_t B_t B_t_current B_t_draft B_t_twisting t_toldCount t_current_n t_current_cells t_draft_n t_draft_cells_140 t_twisting_modulus t_twisting_values) H := hP
                    have hD : va_D A (w_X10_cover Y h_t B_t B_t_current B_t_draft B_t_twisting t_toldCount t_current_n t_current_cells t_draft_n t_draft_cells_140 t_twisting_modulus t_twisting_values) := hD
                    refine lv_iinc (v := (x4 + 1)) (lv' := [(4, .int (x4 + 1)), (5, .int (x4 / x1)), (0, .ref h_t), (1, .int x1), (2, .int x2), (3, .int x3)]) hx hb dX10_cover_143 hl (k := 5) rfl rfl (by decide) rfl (fun ls hl => ?_)
                    refine lv_goto (tgt := 85) hx hb dX10_cover_146 (by decide) ?_
                    exact rec85 (x4 + 1) t_draft_cells_140 H locs ls h hP hD hS (lv_sub hl [2, 3, 4, 5, 0] rfl)
              exact L85 x2 (x2 / x1) I85 m85 hB85 _ (0 : Int32) t_draft_cells H locs ls hI85 (Nat.lt_succ_self _) hP hD hS (lv_sub hl [2, 3, 4, 1, 0] rfl)
        exact L67 t_twisting_modulus t_current_n t_current_cells (t_current_n * t_twisting_modulus) t_twisting_values I67 m67 hB67 _ (0 : Int32) t_draft_cells H locs ls hI67 (Nat.lt_succ_self _) hP hD hS (lv_sub hl [2, 1, 0] rfl)
      · have h := hf c9
        refine lv_iconst (v := -1) hx hb dX10_cover_47 (by decide) ?_
        exact hret (-1 : Int32) t_current_n t_current_cells t_draft_n t_draft_cells t_twisting_values H locs ls _ hP hD hS h dX10_cover_48

set_option maxHeartbeats 4000000 in
set_option maxRecDepth 100000 in
theorem c_X10_cover (l : Launch) (G : va_G) (Y : Nat → ClassId) (tF sz : Nat) (h_t : Nat) (B_t : Nat → Nat) (B_t_current : Nat → Nat) (B_t_draft : Nat → Nat) (B_t_twisting : Nat → Nat) (t_toldCount : Int32) (t_current_n : Int32) (t_current_cells : Nat → Int32) (t_draft_n : Int32) (t_draft_cells : Nat → Int32) (t_twisting_modulus : Int32) (t_twisting_values : Nat → Int32) {K : Int32 → Int32 → (Nat → Int32) → Int32 → (Nat → Int32) → (Nat → Int32) → Prop} (h : pX10_cover t_current_n t_current_cells t_draft_n t_draft_cells t_twisting_modulus t_twisting_values K) : Met l yX10_cover wsX10_cover ({ frames := 3, cells := 0, slots := 0, locals := 105 }) (PcM G Y tF sz (w_X10_cover Y h_t B_t B_t_current B_t_draft B_t_twisting t_toldCount t_current_n t_current_cells t_draft_n t_draft_cells t_twisting_modulus t_twisting_values) [.ref h_t]) (va_Qi (fun (r : Int32) (u : Int32 × (Nat → Int32) × Int32 × (Nat → Int32) × (Nat → Int32)) => K r u.1 u.2.1 u.2.2.1 u.2.2.2.1 u.2.2.2.2) (fun u t => BM G Y (va_A (w_X10_cover Y h_t B_t B_t_current B_t_draft B_t_twisting t_toldCount t_current_n t_current_cells t_draft_n t_draft_cells t_twisting_modulus t_twisting_values) sz) (w_X10_cover Y h_t B_t B_t_current B_t_draft B_t_twisting t_toldCount u.1 u.2.1 u.2.2.1 u.2.2.2.1 t_twisting_modulus u.2.2.2.2) t) (va_A (w_X10_cover Y h_t B_t B_t_current B_t_draft B_t_twisting t_toldCount t_current_n t_current_cells t_draft_n t_draft_cells t_twisting_modulus t_twisting_values) sz)) 0 0 (va_A (w_X10_cover Y h_t B_t B_t_current B_t_draft B_t_twisting t_toldCount t_current_n t_current_cells t_draft_n t_draft_cells t_twisting_modulus t_twisting_values) sz) := by
  refine Met.ofW (cc := cX10_cover) (maxL := 6) (ret := (some .int)) (by decide +kernel) rfl ?_
  intro p e s m args below meth c s₁ B hml hv
  obtain ⟨rfl, hsz, hP, hK, hD0, hE⟩ := hv
  have hts := atoms_spec (ws := wsX10_cover) B.pre
  have hown : s.vm.findClass RX10 = some m.cls := findClass_of_methodNamed B.named
  have hlocks := B.notSynchronized
  subst hsz
  have hD := hD0.self (sz := s.heap.size)
  exact wk_X10_cover h_t B_t B_t_current B_t_draft B_t_twisting t_toldCount t_current_n t_current_cells t_draft_n t_draft_cells t_twisting_modulus t_twisting_values B.exec B.bytes hml hown hts hK hE (fun q h => Or.inr h) (Nat.le_refl _) (Nat.le_refl _) (fun r t_current_n t_current_cells t_draft_n t_draft_cells t_twisting_values H locs ls pc hP hD hS hk hd => W.iret (v := r) B.exec B.bytes B.returns (fun t ht hW => ⟨⟨r, (t_current_n, t_current_cells, t_draft_n, t_draft_cells, t_twisting_values), rfl, hk, by rw [ht]; exact hP, va_K.moved hW.alike hK, hD⟩, hS.F ht⟩) hS.2.2 hd) hP hD h

abbrev w_X10_power (Y : Nat → ClassId) (h_t : Nat) (B_t : Nat → Nat) (B_t_classes : Nat → Nat) (B_t_current : Nat → Nat) (B_t_solver : Nat → Nat) (t_toldCount : Int32) (t_classes_n : Int32) (t_classes_leader : Nat → Int32) (t_classes_numbers : Nat → Int32) (t_current_n : Int32) (t_current_cells : Nat → Int32) (t_solver_things : Int32) (t_solver_unknowns : Int32) (t_solver_prime : Int32) (t_solver_leads : Int64) (t_solver_equation : Nat → Int32) (t_solver_steps : Nat → Int32) : va_W := [(h_t, .inr (9, [.ref (B_t 0), .ref (B_t 1), .ref (B_t 2), .ref (B_t 3), .ref (B_t 4), .ref (B_t 5), .ref (B_t 6), .ref (B_t 7), .ref (B_t 8), .ref (B_t 9), .ref (B_t 10), .ref (B_t 11), .ref (B_t 12), .ref (B_t 13), .int t_toldCount])), ((B_t 6), .inr (1, [.ref (B_t_classes 0), .ref (B_t_classes 1), .int t_classes_n])), ((B_t_classes 0), .inl (Y 0, 8, .inl t_classes_leader)), ((B_t_classes 1), .inl (Y 0, 8, .inl t_classes_numbers)), ((B_t 0), .inr (6, [.ref (B_t_current 0), .int t_current_n])), ((B_t_current 0), .inl (Y 0, 64, .inl t_current_cells)), ((B_t 10), .inr (5, [.ref (B_t_solver 0), .ref (B_t_solver 1), .int t_solver_things, .int t_solver_unknowns, .int t_solver_prime, .long t_solver_leads])), ((B_t_solver 1), .inl (Y 0, 64, .inl t_solver_equation)), ((B_t_solver 0), .inl (Y 0, 4096, .inl t_solver_steps))]

set_option maxHeartbeats 4000000 in
set_option maxRecDepth 100000 in
theorem wk_X10_power {p : Program} {l : Launch} {e : Env} {R : Room} {s : State} {m : MethodId} {args : Array Value} {below : List Frame} {meth : Method} {c : Code} {Q : State → Prop} {G : va_G} {Y : Nat → ClassId} {tF : Nat} {A : Nat → Prop} (h_t : Nat) (B_t : Nat → Nat) (B_t_classes : Nat → Nat) (B_t_current : Nat → Nat) (B_t_solver : Nat → Nat) (t_toldCount : Int32) (t_classes_n : Int32) (t_classes_leader : Nat → Int32) (t_classes_numbers : Nat → Int32) (t_current_n : Int32) (t_current_cells : Nat → Int32) (t_solver_things : Int32) (t_solver_unknowns : Int32) (t_solver_prime : Int32) (t_solver_leads : Int64) (t_solver_equation : Nat → Int32) (t_solver_steps : Nat → Int32) (x1 : Int32) (x2 : Int32) {K : Int32 → Int32 → (Nat → Int32) → (Nat → Int32) → Int32 → Int32 → Int32 → Int64 → (Nat → Int32) → (Nat → Int32) → Prop} (hx : p.tables.exec = Jvm.exec) (hb : c.code = cX10_power) (hml : c.maxLocals = 4) (hown : s.vm.findClass RX10 = some m.cls) (hts : ∀ w ∈ wsX10_power, w.before args s = true) (hK : va_K G vwCl (tyL Y) s) (hE : Ev A tF s) (hA : ∀ q, s.heap.size ≤ q → A q) (hRf : 4 ≤ R.frames) (hRl : 92 ≤ R.locals) (hret : ∀ (r : Int32) (t_classes_n : Int32) (t_classes_leader : Nat → Int32) (t_classes_numbers : Nat → Int32) (t_solver_things : Int32) (t_solver_unknowns : Int32) (t_solver_prime : Int32) (t_solver_leads : Int64) (t_solver_equation : Nat → Int32) (t_solver_steps : Nat → Int32) (H : Heap) (locs : List Loc) (ls : Array Slot) (pc : Nat), va_P G vwCl (w_X10_power Y h_t B_t B_t_classes B_t_current B_t_solver t_toldCount t_classes_n t_classes_leader t_classes_numbers t_current_n t_current_cells t_solver_things t_solver_unknowns t_solver_prime t_solver_leads t_solver_equation t_solver_steps) H → va_D A (w_X10_power Y h_t B_t B_t_classes B_t_current B_t_solver t_toldCount t_classes_n t_classes_leader t_classes_numbers t_current_n t_current_cells t_solver_things t_solver_unknowns t_solver_prime t_solver_leads t_solver_equation t_solver_steps) → va_S A s.heap H locs → K r t_classes_n t_classes_leader t_classes_numbers t_solver_things t_solver_unknowns t_solver_prime t_solver_leads t_solver_equation t_solver_steps → decode cX10_power pc = .ok (.ireturn, 1) → W p l e R s m args below meth c H locs 0 0 Q (F0 m pc ls [.int r])) (hP : va_P G vwCl (w_X10_power Y h_t B_t B_t_classes B_t_current B_t_solver t_toldCount t_classes_n t_classes_leader t_classes_numbers t_current_n t_current_cells t_solver_things t_solver_unknowns t_solver_prime t_solver_leads t_solver_equation t_solver_steps) s.heap) (hD : va_D A (w_X10_power Y h_t B_t B_t_classes B_t_current B_t_solver t_toldCount t_classes_n t_classes_leader t_classes_numbers t_current_n t_current_cells t_solver_things t_solver_unknowns t_solver_prime t_solver_leads t_solver_equation t_solver_steps)) (h : pX10_power t_classes_n t_classes_leader t_classes_numbers t_current_n t_current_cells t_solver_things t_solver_unknowns t_solver_prime t_solver_leads t_solver_equation t_solver_steps x1 x2 K) : W p l e R s m args below meth c s.heap [] 0 0 Q (entryFrame m ([.ref h_t, .int x1, .int x2] : List Value).toArray 4) := by
  have inX10 : ∀ w ∈ u_ws RX10 TX10 15, w ∈ wsX10_power := by decide +kernel
  have inX7 : ∀ w ∈ u_ws RX7 TX7 2, w ∈ wsX10_power := by decide +kernel
  have hf14 := hts (.fieldLink RX10 14 "RackBench" "current" "LRackBench$Table;") (by decide +kernel)
  have hf73 := hts (.fieldLink RX10 73 "RackBench" "solver" "LRackBench$Solver;") (by decide +kernel)
  have hl := lv_entry ([.ref h_t, .int x1, .int x2]) (n := 4) (Nat.le_of_ble_eq_true rfl)
  rw [lg_entry_eq]
  generalize (lg_sl ([.ref h_t, .int x1, .int x2]) ++ List.replicate (4 - (lg_sl ([.ref h_t, .int x1, .int x2])).length) Slot.unset).toArray = ls at hl ⊢
  have hl : lv_has ls 4 [(0, .ref h_t), (1, .int x1), (2, .int x2)] := hl
  generalize hH0 : s.heap = H at hP ⊢
  have hS : va_S A s.heap H [] := by rw [← hH0]; exact va_S.rf
  clear hH0
  generalize ([] : List Loc) = locs at hS ⊢
  have J26 : ∀ (x1 : Int32) (x2 : Int32) (s0 : Int32) (t_classes_n : Int32) (t_classes_leader : Nat → Int32) (t_classes_numbers : Nat → Int32) (t_solver_things : Int32) (t_solver_unknowns : Int32) (t_solver_prime : Int32) (t_solver_leads : Int64) (t_solver_equation : Nat → Int32) (t_solver_steps : Nat → Int32) (H : Heap) (locs : List Loc) (ls : Array Slot), pX10_power_26 t_current_n t_current_cells K x1 x2 s0 t_classes_n t_classes_leader t_classes_numbers t_solver_things t_solver_unknowns t_solver_prime t_solver_leads t_solver_equation t_solver_steps → va_P G vwCl (w_X10_power Y h_t B_t B_t_classes B_t_current B_t_solver t_toldCount t_classes_n t_classes_leader t_classes_numbers t_current_n t_current_cells t_solver_things t_solver_unknowns t_solver_prime t_solver_leads t_solver_equation t_solver_steps) H → va_D A (w_X10_power Y h_t B_t B_t_classes B_t_current B_t_solver t_toldCount t_classes_n t_classes_leader t_classes_numbers t_current_n t_current_cells t_solver_things t_solver_unknowns t_solver_prime t_solver_leads t_solver_equation t_solver_steps) → va_S A s.heap H locs → lv_has ls 4 [(0, .ref h_t), (1, .int x1), (2, .int x2)] → W p l e R s m args below meth c H locs 0 0 Q (F0 m 26 ls [.int s0]) := by
    intro x1 x2 s0 t_classes_n t_classes_leader t_classes_numbers t_solver_things t_solver_unknowns t_solver_prime t_solver_leads t_solver_equation t_solver_steps H locs ls h hP hD hS hl
    refine lv_istore_n (lv' := [(3, .int s0), (0, .ref h_t), (1, .int x1), (2, .int x2)]) hx hb dX10_power_26 rfl hl (by decide) rfl (fun ls hl => ?_)
    refine lv_iload_n hx hb dX10_power_27 rfl (lv_at hl 0 rfl) ?_
    obtain ⟨ht, hf⟩ := h
    refine lv_if_eq (tgt := 50) hx hb dX10_power_28 (by decide) (fun c9 => ?_) (fun c9 => ?_)
    · have h := ht c9
      refine lv_iconst (v := -1) hx hb dX10_power_50 (by decide) ?_
      exact hret (-1 : Int32) t_classes_n t_classes_leader t_classes_numbers t_solver_things t_solver_unknowns t_solver_prime t_solver_leads t_solver_equation t_solver_steps H locs ls _ hP hD hS h dX10_power_51
    · have h := hf c9
      refine lv_iload_n hx hb dX10_power_31 rfl (lv_at hl 3 rfl) ?_
      obtain ⟨ht, hf⟩ := h
      refine lv_if_lt (tgt := 50) hx hb dX10_power_32 (by decide) (fun c9 => ?_) (fun c9 => ?_)
      · have h := ht c9
        refine lv_iconst (v := -1) hx hb dX10_power_50 (by decide) ?_
        exact hret (-1 : Int32) t_classes_n t_classes_leader t_classes_numbers t_solver_things t_solver_unknowns t_solver_prime t_solver_leads t_solver_equation t_solver_steps H locs ls _ hP hD hS h dX10_power_51
      · have h := hf c9
        refine lv_iload_n hx hb dX10_power_35 rfl (lv_at hl 3 rfl) ?_
        refine lv_iconst (v := 1) hx hb dX10_power_36 (by decide) ?_
        obtain ⟨ht, hf⟩ := h
        refine lv_icmp_gt (tgt := 50) hx hb dX10_power_37 (by decide) (fun c9 => ?_) (fun c9 => ?_)
        · have h := ht c9
          refine lv_iconst (v := -1) hx hb dX10_power_50 (by decide) ?_
          exact hret (-1 : Int32) t_classes_n t_classes_leader t_classes_numbers t_solver_things t_solver_unknowns t_solver_prime t_solver_leads t_solver_equation t_solver_steps H locs ls _ hP hD hS h dX10_power_51
        · have h := hf c9
          refine lv_aload_n hx hb dX10_power_40 rfl (lv_at hl 1 rfl) ?_
          refine va_get (D := G) (ci := 9) (v := .ref (B_t 0)) (C := RX10) (T := TX10) (N := 15) hx hb hts inX10 hown hK hP 0 rfl rfl 0 (by decide) hf14 (fun _ h9 => h9) rfl dX10_power_41 ?_
          refine mc_iV ⟨hx, hb, hml, hown, hts⟩ hK hE hA hP hD hS (c_X7_isRack l G Y tF H.size (B_t 0) B_t_current t_current_n t_current_cells h) (cwV 0 hts gX10_power_X7_isRack rfl rfl rfl (by decide +kernel) ⟨Nat.le_trans (by decide) hRf, Nat.le_trans (by decide) hRl⟩) (fun u => (w_X10_power Y h_t B_t B_t_classes B_t_current B_t_solver t_toldCount t_classes_n t_classes_leader t_classes_numbers t_current_n t_current_cells t_solver_things t_solver_unknowns t_solver_prime t_solver_leads t_solver_equation t_solver_steps)) [4, 5] [0, 1, 2, 3, 6, 7, 8] [0, 1, 2, 3, 7, 8, 4, 5, 6] rfl rfl rfl rfl (by decide) (fun _ => rfl) rfl 4 6 rfl rfl rfl rfl hl.1 rfl (Nat.le_of_ble_eq_true rfl) dX10_power_44 (fun r44 u H locs h hP hD hS => ?_)
          try dsimp only at h
          have hP : va_P G vwCl (w_X10_power Y h_t B_t B_t_classes B_t_current B_t_solver t_toldCount t_classes_n t_classes_leader t_classes_numbers t_current_n t_current_cells t_solver_things t_solver_unknowns t_solver_prime t_solver_leads t_solver_equation t_solver_steps) H := hP
          have hD : va_D A (w_X10_power Y h_t B_t B_t_classes B_t_current B_t_solver t_toldCount t_classes_n t_classes_leader t_classes_numbers t_current_n t_current_cells t_solver_things t_solver_unknowns t_solver_prime t_solver_leads t_solver_equation t_solver_steps) := hD
          obtain ⟨ht, hf⟩ := h
          refine lv_if_ne (tgt := 52) hx hb dX10_power_47 (by decide) (fun c9 => ?_) (fun c9 => ?_)
          · have h := ht c9
            refine lv_iload_n hx hb dX10_power_52 rfl (lv_at hl 3 rfl) ?_
            obtain ⟨ht, hf⟩ := h
            refine lv_if_ne (tgt := 69) hx hb dX10_power_53 (by decide) (fun c9 => ?_) (fun c9 => ?_)
            · have h := ht c9
              refine lv_aload_n hx hb dX10_power_69 rfl (lv_at hl 1 rfl) ?_
              refine va_get (D := G) (ci := 9) (v := .ref (B_t 0)) (C := RX10) (T := TX10) (N := 15) hx hb hts inX10 hown hK hP 0 rfl rfl 0 (by decide) hf14 (fun _ h9 => h9) rfl dX10_power_70 ?_
              refine va_getN (D := G) (ci := 6) (v := .int t_current_n) (C := RX7) (T := TX7) (N := 2) hx hb hts inX7 hown hK hP 4 rfl rfl 1 (by decide) (hE.nest args 0 _ rfl) (fun _ h9 => h9) rfl dX10_power_73 ?_
              refine lv_aload_n hx hb dX10_power_76 rfl (lv_at hl 1 rfl) ?_
              refine mc_iV ⟨hx, hb, hml, hown, hts⟩ hK hE hA hP hD hS (c_X10_splitIntoOrbits l G Y tF H.size h_t B_t B_t_classes B_t_current t_toldCount t_classes_n t_classes_leader t_classes_numbers t_current_n t_current_cells h) (cwV 0 hts gX10_power_X10_splitIntoOrbits rfl rfl rfl (by decide +kernel) ⟨Nat.le_trans (by decide) hRf, Nat.le_trans (by decide) hRl⟩) (fun u => (w_X10_power Y h_t B_t B_t_classes B_t_current B_t_solver t_toldCount u.1 u.2.1 u.2.2 t_current_n t_current_cells t_solver_things t_solver_unknowns t_solver_prime t_solver_leads t_solver_equation t_solver_steps)) [0, 1, 2, 3, 4, 5] [6, 7, 8] [3, 4, 5, 6, 7, 8, 0, 1, 2] rfl rfl rfl rfl (by decide) (fun _ => rfl) rfl 0 9 rfl rfl rfl rfl hl.1 rfl (Nat.le_of_ble_eq_true rfl) dX10_power_77 (fun r77 u H locs h hP hD hS => ?_)
              obtain ⟨t_classes_n_77, t_classes_leader_77, t_classes_numbers_77⟩ := u
              try dsimp only at h
              have hP : va_P G vwCl (w_X10_power Y h_t B_t B_t_classes B_t_current B_t_solver t_toldCount t_classes_n_77 t_classes_leader_77 t_classes_numbers_77 t_current_n t_current_cells t_solver_things t_solver_unknowns t_solver_prime t_solver_leads t_solver_equation t_solver_steps) H := hP
              have hD : va_D A (w_X10_power Y h_t B_t B_t_classes B_t_current B_t_solver t_toldCount t_classes_n_77 t_classes_leader_77 t_classes_numbers_77 t_current_n t_current_cells t_solver_things t_solver_unknowns t_solver_prime t_solver_leads t_solver_equation t_solver_steps) := hD
              refine lv_isub hx hb dX10_power_80 ?_
              exact hret (t_current_n - r77) t_classes_n_77 t_classes_leader_77 t_classes_numbers_77 t_solver_things t_solver_unknowns t_solver_prime t_solver_leads t_solver_equation t_solver_steps H locs ls _ hP hD hS h dX10_power_81
            · have h := hf c9
              refine lv_aload_n hx hb dX10_power_56 rfl (lv_at hl 1 rfl) ?_
              refine va_get (D := G) (ci := 9) (v := .ref (B_t 10)) (C := RX10) (T := TX10) (N := 15) hx hb hts inX10 hown hK hP 0 rfl rfl 10 (by decide) hf73 (fun _ h9 => h9) rfl dX10_power_57 ?_
              refine lv_aload_n hx hb dX10_power_60 rfl (lv_at hl 1 rfl) ?_
              refine va_get (D := G) (ci := 9) (v := .ref (B_t 0)) (C := RX10) (T := TX10) (N := 15) hx hb hts inX10 hown hK hP 0 rfl rfl 0 (by decide) hf14 (fun _ h9 => h9) rfl dX10_power_61 ?_
              refine lv_iload_n hx hb dX10_power_64 rfl (lv_at hl 2 rfl) ?_
              refine mc_iV ⟨hx, hb, hml, hown, hts⟩ hK hE hA hP hD hS (c_X6_closedPower l G Y tF H.size (B_t 10) (B_t 0) B_t_solver B_t_current t_solver_things t_solver_unknowns t_solver_prime t_solver_leads t_solver_equation t_solver_steps t_current_n t_current_cells x1 h) (cwV 2 hts gX10_power_X6_closedPower rfl rfl rfl (by decide +kernel) ⟨Nat.le_trans (by decide) hRf, Nat.le_trans (by decide) hRl⟩) (fun u => (w_X10_power Y h_t B_t B_t_classes B_t_current B_t_solver t_toldCount t_classes_n t_classes_leader t_classes_numbers t_current_n t_current_cells u.1 u.2.1 u.2.2.1 u.2.2.2.1 u.2.2.2.2.1 u.2.2.2.2.2)) [6, 7, 8, 4, 5] [0, 1, 2, 3] [0, 1, 2, 3, 7, 8, 4, 5, 6] rfl rfl rfl rfl (by decide) (fun _ => rfl) rfl 6 5 rfl rfl rfl rfl hl.1 rfl (Nat.le_of_ble_eq_true rfl) dX10_power_65 (fun r65 u H locs h hP hD hS => ?_)
              obtain ⟨t_solver_things_65, t_solver_unknowns_65, t_solver_prime_65, t_solver_leads_65, t_solver_equation_65, t_solver_steps_65⟩ := u
              try dsimp only at h
              have hP : va_P G vwCl (w_X10_power Y h_t B_t B_t_classes B_t_current B_t_solver t_toldCount t_classes_n t_classes_leader t_classes_numbers t_current_n t_current_cells t_solver_things_65 t_solver_unknowns_65 t_solver_prime_65 t_solver_leads_65 t_solver_equation_65 t_solver_steps_65) H := hP
              have hD : va_D A (w_X10_power Y h_t B_t B_t_classes B_t_current B_t_solver t_toldCount t_classes_n t_classes_leader t_classes_numbers t_current_n t_current_cells t_solver_things_65 t_solver_unknowns_65 t_solver_prime_65 t_solver_leads_65 t_solver_equation_65 t_solver_steps_65) := hD
              exact hret r65 t_classes_n t_classes_leader t_classes_numbers t_solver_things_65 t_solver_unknowns_65 t_solver_prime_65 t_solver_leads_65 t_solver_equation_65 t_solver_steps_65 H locs ls _ hP hD hS h dX10_power_68
          · have h := hf c9
            refine lv_iconst (v := -1) hx hb dX10_power_50 (by decide) ?_
            exact hret (-1 : Int32) t_classes_n t_classes_leader t_classes_numbers t_solver_things t_solver_unknowns t_solver_prime t_solver_leads t_solver_equation t_solver_steps H locs ls _ hP hD hS h dX10_power_51
  have J21 : ∀ (x1 : Int32) (x2 : Int32) (t_classes_n : Int32) (t_classes_leader : Nat → Int32) (t_classes_numbers : Nat → Int32) (t_solver_things : Int32) (t_solver_unknowns : Int32) (t_solver_prime : Int32) (t_solver_leads : Int64) (t_solver_equation : Nat → Int32) (t_solver_steps : Nat → Int32) (H : Heap) (locs : List Loc) (ls : Array Slot), pX10_power_21 t_current_n t_current_cells K x1 x2 t_classes_n t_classes_leader t_classes_numbers t_solver_things t_solver_unknowns t_solver_prime t_solver_leads t_solver_equation t_solver_steps → va_P G vwCl (w_X10_power Y h_t B_t B_t_classes B_t_current B_t_solver t_toldCount t_classes_n t_classes_leader t_classes_numbers t_current_n t_current_cells t_solver_things t_solver_unknowns t_solver_prime t_solver_leads t_solver_equation t_solver_steps) H → va_D A (w_X10_power Y h_t B_t B_t_classes B_t_current B_t_solver t_toldCount t_classes_n t_classes_leader t_classes_numbers t_current_n t_current_cells t_solver_things t_solver_unknowns t_solver_prime t_solver_leads t_solver_equation t_solver_steps) → va_S A s.heap H locs → lv_has ls 4 [(0, .ref h_t), (1, .int x1), (2, .int x2)] → W p l e R s m args below meth c H locs 0 0 Q (F0 m 21 ls []) := by
    intro x1 x2 t_classes_n t_classes_leader t_classes_numbers t_solver_things t_solver_unknowns t_solver_prime t_solver_leads t_solver_equation t_solver_steps H locs ls h hP hD hS hl
    refine lv_iconst (v := 1) hx hb dX10_power_21 (by decide) ?_
    refine lv_goto (tgt := 26) hx hb dX10_power_22 (by decide) ?_
    exact J26 x1 x2 (1 : Int32) t_classes_n t_classes_leader t_classes_numbers t_solver_things t_solver_unknowns t_solver_prime t_solver_leads t_solver_equation t_solver_steps H locs ls h hP hD hS (lv_sub hl [0, 1, 2] rfl)
  refine lv_iload_n hx hb dX10_power_0 rfl (lv_at hl 1 rfl) ?_
  refine lv_iconst (v := 2) hx hb dX10_power_1 (by decide) ?_
  obtain ⟨ht, hf⟩ := h
  refine lv_icmp_eq (tgt := 21) hx hb dX10_power_2 (by decide) (fun c9 => ?_) (fun c9 => ?_)
  · have h := ht c9
    exact J21 x1 x2 t_classes_n t_classes_leader t_classes_numbers t_solver_things t_solver_unknowns t_solver_prime t_solver_leads t_solver_equation t_solver_steps H locs ls h hP hD hS (lv_sub hl [0, 1, 2] rfl)
  · have h := hf c9
    refine lv_iload_n hx hb dX10_power_5 rfl (lv_at hl 1 rfl) ?_
    refine lv_iconst (v := 3) hx hb dX10_power_6 (by decide) ?_
    obtain ⟨ht, hf⟩ := h
    refine lv_icmp_eq (tgt := 21) hx hb dX10_power_7 (by decide) (fun c9 => ?_) (fun c9 => ?_)
    · have h := ht c9
      exact J21 x1 x2 t_classes_n t_classes_leader t_classes_numbers t_solver_things t_solver_unknowns t_solver_prime t_solver_leads t_solver_equation t_solver_steps H locs ls h hP hD hS (lv_sub hl [0, 1, 2] rfl)
    · have h := hf c9
      refine lv_iload_n hx hb dX10_power_10 rfl (lv_at hl 1 rfl) ?_
      refine lv_iconst (v := 5) hx hb dX10_power_11 (by decide) ?_
      obtain ⟨ht, hf⟩ := h
      refine lv_icmp_eq (tgt := 21) hx hb dX10_power_12 (by decide) (fun c9 => ?_) (fun c9 => ?_)
      · have h := ht c9
        exact J21 x1 x2 t_classes_n t_classes_leader t_classes_numbers t_solver_things t_solver_unknowns t_solver_prime t_solver_leads t_solver_equation t_solver_steps H locs ls h hP hD hS (lv_sub hl [0, 1, 2] rfl)
      · have h := hf c9
        refine lv_iload_n hx hb dX10_power_15 rfl (lv_at hl 1 rfl) ?_
        refine lv_bipush (v := 7) hx hb dX10_power_16 (by decide) ?_
        obtain ⟨ht, hf⟩ := h
        refine lv_icmp_ne (tgt := 25) hx hb dX10_power_18 (by decide) (fun c9 => ?_) (fun c9 => ?_)
        · have h := ht c9
          refine lv_iconst (v := 0) hx hb dX10_power_25 (by decide) ?_
          exact J26 x1 x2 (0 : Int32) t_classes_n t_classes_leader t_classes_numbers t_solver_things t_solver_unknowns t_solver_prime t_solver_leads t_solver_equation t_solver_steps H locs ls h hP hD hS (lv_sub hl [0, 1, 2] rfl)
        · have h := hf c9
          exact J21 x1 x2 t_classes_n t_classes_leader t_classes_numbers t_solver_things t_solver_unknowns t_solver_prime t_solver_leads t_solver_equation t_solver_steps H locs ls h hP hD hS (lv_sub hl [0, 1, 2] rfl)

set_option maxHeartbeats 4000000 in
set_option maxRecDepth 100000 in
theorem c_X10_power (l : Launch) (G : va_G) (Y : Nat → ClassId) (tF sz : Nat) (h_t : Nat) (B_t : Nat → Nat) (B_t_classes : Nat → Nat) (B_t_current : Nat → Nat) (B_t_solver : Nat → Nat) (t_toldCount : Int32) (t_classes_n : Int32) (t_classes_leader : Nat → Int32) (t_classes_numbers : Nat → Int32) (t_current_n : Int32) (t_current_cells : Nat → Int32) (t_solver_things : Int32) (t_solver_unknowns : Int32) (t_solver_prime : Int32) (t_solver_leads : Int64) (t_solver_equation : Nat → Int32) (t_solver_steps : Nat → Int32) (x1 : Int32) (x2 : Int32) {K : Int32 → Int32 → (Nat → Int32) → (Nat → Int32) → Int32 → Int32 → Int32 → Int64 → (Nat → Int32) → (Nat → Int32) → Prop} (h : pX10_power t_classes_n t_classes_leader t_classes_numbers t_current_n t_current_cells t_solver_things t_solver_unknowns t_solver_prime t_solver_leads t_solver_equation t_solver_steps x1 x2 K) : Met l yX10_power wsX10_power ({ frames := 4, cells := 0, slots := 0, locals := 92 }) (PcM G Y tF sz (w_X10_power Y h_t B_t B_t_classes B_t_current B_t_solver t_toldCount t_classes_n t_classes_leader t_classes_numbers t_current_n t_current_cells t_solver_things t_solver_unknowns t_solver_prime t_solver_leads t_solver_equation t_solver_steps) [.ref h_t, .int x1, .int x2]) (va_Qi (fun (r : Int32) (u : Int32 × (Nat → Int32) × (Nat → Int32) × Int32 × Int32 × Int32 × Int64 × (Nat → Int32) × (Nat → Int32)) => K r u.1 u.2.1 u.2.2.1 u.2.2.2.1 u.2.2.2.2.1 u.2.2.2.2.2.1 u.2.2.2.2.2.2.1 u.2.2.2.2.2.2.2.1 u.2.2.2.2.2.2.2.2) (fun u t => BM G Y (va_A (w_X10_power Y h_t B_t B_t_classes B_t_current B_t_solver t_toldCount t_classes_n t_classes_leader t_classes_numbers t_current_n t_current_cells t_solver_things t_solver_unknowns t_solver_prime t_solver_leads t_solver_equation t_solver_steps) sz) (w_X10_power Y h_t B_t B_t_classes B_t_current B_t_solver t_toldCount u.1 u.2.1 u.2.2.1 t_current_n t_current_cells u.2.2.2.1 u.2.2.2.2.1 u.2.2.2.2.2.1 u.2.2.2.2.2.2.1 u.2.2.2.2.2.2.2.1 u.2.2.2.2.2.2.2.2) t) (va_A (w_X10_power Y h_t B_t B_t_classes B_t_current B_t_solver t_toldCount t_classes_n t_classes_leader t_classes_numbers t_current_n t_current_cells t_solver_things t_solver_unknowns t_solver_prime t_solver_leads t_solver_equation t_solver_steps) sz)) 0 0 (va_A (w_X10_power Y h_t B_t B_t_classes B_t_current B_t_solver t_toldCount t_classes_n t_classes_leader t_classes_numbers t_current_n t_current_cells t_solver_things t_solver_unknowns t_solver_prime t_solver_leads t_solver_equation t_solver_steps) sz) := by
  refine Met.ofW (cc := cX10_power) (maxL := 4) (ret := (some .int)) (by decide +kernel) rfl ?_
  intro p e s m args below meth c s₁ B hml hv
  obtain ⟨rfl, hsz, hP, hK, hD0, hE⟩ := hv
  have hts := atoms_spec (ws := wsX10_power) B.pre
  have hown : s.vm.findClass RX10 = some m.cls := findClass_of_methodNamed B.named
  have hlocks := B.notSynchronized
  subst hsz
  have hD := hD0.self (sz := s.heap.size)
  exact wk_X10_power h_t B_t B_t_classes B_t_current B_t_solver t_toldCount t_classes_n t_classes_leader t_classes_numbers t_current_n t_current_cells t_solver_things t_solver_unknowns t_solver_prime t_solver_leads t_solver_equation t_solver_steps x1 x2 B.exec B.bytes hml hown hts hK hE (fun q h => Or.inr h) (Nat.le_refl _) (Nat.le_refl _) (fun r t_classes_n t_classes_leader t_classes_numbers t_solver_things t_solver_unknowns t_solver_prime t_solver_leads t_solver_equation t_solver_steps H locs ls pc hP hD hS hk hd => W.iret (v := r) B.exec B.bytes B.returns (fun t ht hW => ⟨⟨r, (t_classes_n, t_classes_leader, t_classes_numbers, t_solver_things, t_solver_unknowns, t_solver_prime, t_solver_leads, t_solver_equation, t_solver_steps), rfl, hk, by rw [ht]; exact hP, va_K.moved hW.alike hK, hD⟩, hS.F ht⟩) hS.2.2 hd) hP hD h
